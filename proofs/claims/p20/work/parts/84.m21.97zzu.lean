section W_88
-- 97zzu.pair
/-! the class and the reference: pair -/
theorem fpR_u {E : Nat → Nat → Bool} {C D i j a b a' b' : Nat} (h : fpR E C D i j a b) (h' : fpR E C D i j a' b') : a = a' ∧ b = b' := by
  obtain ⟨x1, x2, x3, x4, x5, x6⟩ := h
  obtain ⟨y1, y2, y3, y4, y5, y6⟩ := h'
  have n1 : ¬ lxl a b a' b' := fun w => y6 a b x1 x3 x4 w x5
  have n2 : ¬ lxl a' b' a b := fun w => x6 a' b' y1 y3 y4 w y5
  unfold lxl at n1 n2
  omega
theorem prR_u {E : Nat → Nat → Bool} {C D : Nat} : ∀ {k a b a' b' : Nat}, prR E C D k a b → prR E C D k a' b' → a = a' ∧ b = b'
  | 0, _, _, _, _, h, h' => fpR_u h h'
  | k + 1, _, _, _, _, ⟨c, d, h1, h2⟩, ⟨c', d', h1', h2'⟩ => by
    obtain ⟨e1, e2⟩ := prR_u h1 h1'
    subst e1 e2
    exact fpR_u h2 h2'
section YL
variable {pB : Prop} {F K W o o1 o2 r r1 r2 C D i j t t1 t2 : Nat} {u uc um uc' um' v w : rg_U} {x y z c : Int32}
theorem c_callAt {a : Nat} (hu : lyX uc u) (h : CG uc um o r) (ho : 116 ≤ o) (hr : runOK um r) (ha : a < Cr um r) : g_X1_read F (o + 24) (nI a) 0 u = some (nI (tC um r a)) := by
  have hC := hr.2.2.2.2.2.2.2.2.1
  have e3 : rF u (o + 24) 3 = nI (Cr um r) := (hu.2.2 _ (by omega)).trans h.1
  unfold g_X1_read g_X1_has
  rw [if_neg (nI_pos (by omega)), e3, if_neg (nI_ge ha (by omega)), if_neg (show ¬ (100 : Int32) ≤ nI a from nI_ge (a := a) (b := 100) (by omega) (by decide)), ob_i, if_neg one_n0, if_pos rfl, ck_t (inb_nI (by omega) (by decide)), rA_nI (by omega), hu.2.1 _ (by omega), show o + 24 + 1 = o + 25 from rfl, (h.2 a ha).1, (tC_ok hr ha).1]
theorem c_unlike {a n : Nat} (h1 : RR pB u um o1 r1) (h2 : RR pB u um o2 r2) (ht1 : t1 ≤ Tr um r1) (ht2 : t2 ≤ Tr um r2) (hT1 : Tr um r1 ≤ 3000) (hT2 : Tr um r2 ≤ 3000) (hF : 10000 < F) (ha : g_X9_firstPlaceOf y = nI a) (hn : g_X9_placesOf y = nI n) (han : a + n ≤ 40) : g_X9_unlike F (o1 + 12) (nI t1) (o2 + 12) (nI t2) y u = some (prB (rpm um r1 t1).1 (rpm um r2 t2).1 a n) := by
  have h := lp_up (body := fun (s : Int32 × Int32) => g_X9_unlike_l6 F (o1 + 12) (o2 + 12) (nI t1) (nI t2) y u s.1 s.2) (fun i => (prB (rpm um r1 t1).1 (rpm um r2 t2).1 a i, nI i)) n (prB (rpm um r1 t1).1 (rpm um r2 t2).1 a n) (fun i hi => by
    show g_X9_unlike_l6 F (o1 + 12) (o2 + 12) (nI t1) (nI t2) y u (prB (rpm um r1 t1).1 (rpm um r2 t2).1 a i) (nI i) = _
    obtain ⟨n1, b1, -, -, -, b5⟩ := c_read (F := F) (t := t1) (p := a + i) h1 ht1 (by omega) hT1 hF
    obtain ⟨n2, d1, d2, d3, -, -⟩ := c_read (F := F) (t := t2) (p := a + i) h2 ht2 (by omega) hT2 hF
    unfold g_X9_unlike_l6 g_X9_unlike_j70
    rw [hn, if_neg (nI_ge hi (by omega)), ha, nI_add, d1, ob_i, b1, ob_i, d2, ob_i, d3, ob_i, b5, ob_i, nI_1]
    show _ = some (Sum.inl (prB (rpm um r1 t1).1 (rpm um r2 t2).1 a i ||| (if (rpm um r1 t1).1 (a + i) = (rpm um r2 t2).1 (a + i) ∧ (rpm um r1 t1).1 (40 + (a + i)) = (rpm um r2 t2).1 (40 + (a + i)) then 0 else dx_shl 1 (nI i)), nI (i + 1)))
    by_cases w : (rpm um r1 t1).1 (a + i) = (rpm um r2 t2).1 (a + i) ∧ (rpm um r1 t1).1 (40 + (a + i)) = (rpm um r2 t2).1 (40 + (a + i))
    · rw [if_pos w, if_neg one_n0, if_pos w, Int32.or_zero]
    · rw [if_neg w, if_pos rfl, if_neg w]) (by
    show g_X9_unlike_l6 F (o1 + 12) (o2 + 12) (nI t1) (nI t2) y u _ (nI n) = _
    unfold g_X9_unlike_l6
    rw [hn, if_pos (nI_le (Nat.le_refl _) (by omega))]) F 0 (Nat.zero_le _) (by omega)
  unfold g_X9_unlike
  have h' : lp (fun (s : Int32 × Int32) => g_X9_unlike_l6 F (o1 + 12) (o2 + 12) (nI t1) (nI t2) y u s.1 s.2) F ((0 : Int32), (0 : Int32)) = some (prB (rpm um r1 t1).1 (rpm um r2 t2).1 a n) := h
  rw [h', ob_i]
theorem in3_iff : (¬ x < 0 ∧ x ≤ 3) ↔ ¬ g_X10_isIn x 0 3 = 0 := by
  rw [in_0, Decidable.not_not, Int32.lt_iff_toInt_lt, Int32.le_iff_toInt_le, Int32.le_iff_toInt_le, t_0]
  constructor
  · rintro ⟨a, b⟩; exact ⟨by omega, b⟩
  · rintro ⟨a, b⟩; exact ⟨by omega, b⟩
theorem is23 (h1 : ¬ c < 0) (h2 : c ≤ 3) (h3 : ¬ c = 0) (h4 : ¬ c = 1) : c = 2 ∨ c = 3 := by
  obtain ⟨k, hk, rfl⟩ := nI_of h1
  have : k ≤ 3 := by
    rcases Nat.lt_or_ge 3 k with w | w
    · exact absurd h2 (nI_ge (a := 3) (b := k) w hk)
    · exact w
  rcases (show k = 0 ∨ k = 1 ∨ k = 2 ∨ k = 3 by omega) with rfl | rfl | rfl | rfl
  · exact absurd rfl h3
  · exact absurd rfl h4
  · exact Or.inl rfl
  · exact Or.inr rfl
theorem sr_pair (hF : 10000 < F) : SB pB (g_X9_pair F x y z c) (g_X10_pair F x y z c) := fun uc um h => by
  obtain ⟨K, W, r1, r2, -⟩ := id h
  have h0 := Rel_zero h
  have m0 : okM (sF um 0 35 0) K W := okM_34 (by omega) r1
  have hK := r1.1.1.2.1
  have r20 : okX (sF uc 0 13 0) := by
    obtain ⟨_, _, _, w, -⟩ := id h0
    exact w
  unfold g_X9_pair
  rw [lt1_i]
  have bad : ∀ v, lyX (sF uc 0 13 0) v → ¬ prW um K x y z c → ∃ zm, g_X10_pair F x y z c um = some zm ∧ (-1000001 : Int32) = zm.1 ∧ RelC pB v zm.2 := fun v hv hb => by
    rcases m_pair (F := F) (x := x) (y := y) (z := z) (q := c) r1 hF with ⟨w, e, ok, ce, -⟩ | ⟨a1, a2, k, a, b, w, g1, g2, g3, g4, g5, g6, g7, -⟩
    · exact ⟨_, e, rfl, Rel_e (Rel_ly h0 hv) m0 ce ok⟩
    · exact absurd ⟨a1, a2, k, g1, g2, g3, g4, g5, g6, g7⟩ hb
  rcases Rel_at (F := F) (x := x) h0 m0 with ⟨n1, e1⟩ | ⟨p, p1, p2, p3, e1, p4, p5⟩
  · obtain ⟨zm, b1, b2, b3⟩ := bad _ ly_r (fun ⟨s1, _, _, w1, _, w3, _⟩ => n1 ⟨s1, w1, w3⟩)
    refine ⟨(-1000001, sF uc 0 13 0), zm, ?_, b1, b2, b3⟩
    rw [e1, ob_i, om_0]
    rcases Rel_at (F := F) (x := y) h0 m0 with ⟨n2, e2⟩ | ⟨s, q1, q2, q3, e2, q4, q5⟩
    · rw [e2, ob_i, om_0]
    · rw [e2, ob_i, om_i, ck_t (oR_rn q3)]
  rcases Rel_at (F := F) (x := y) h0 m0 with ⟨n2, e2⟩ | ⟨s, q1, q2, q3, e2, q4, q5⟩
  · obtain ⟨zm, b1, b2, b3⟩ := bad _ ly_r (fun ⟨_, s2, _, _, w2, _, w4, _⟩ => n2 ⟨s2, w2, w4⟩)
    refine ⟨(-1000001, sF uc 0 13 0), zm, ?_, b1, b2, b3⟩
    rw [e1, ob_i, om_i, ck_t (oR_rn p3), e2, ob_i, om_0]
  rw [e1, ob_i, om_i, ck_t (oR_rn p3), e2, ob_i, om_i, ck_t (oR_rn q3)]
  by_cases qc : g_X10_isIn c 0 3 = 0
  · obtain ⟨zm, b1, b2, b3⟩ := bad _ ly_r (fun ⟨_, _, _, _, _, _, _, _, _, w⟩ => w qc)
    refine ⟨(-1000001, sF uc 0 13 0), zm, ?_, b1, b2, b3⟩
    by_cases qd : c < 0
    · rw [if_pos qd]
    · rw [if_neg qd, if_neg (fun qe => in3_iff.mp ⟨qd, qe⟩ qc)]
  obtain ⟨i1, i2⟩ := in3_iff.mpr qc
  rw [if_neg i1, if_pos i2]
  have hC : Cr um p ≤ 100 := p5.2.2.2.2.2.2.2.2.1
  obtain ⟨v, k1, k2, k3⟩ := c_lay (F := F) (LK_i r20.2 p4.2.2.1 q4.2.2.1 oR_ge oR_ge p5.2.2.2.2.2.2.2.2.1 q5.2.2.2.2.2.2.2.2.1) p4.2.2.1.1 q4.2.2.1.1 hF
  have k3' : chS v (E35 um p s) (Cr um p) (Cr um s) (lL (E35 um p s) (Cr um p) (Cr um s) 0 0) := k3
  have hN : lL (E35 um p s) (Cr um p) (Cr um s) 0 0 ≤ 100 := Nat.le_trans lL_le hC
  rw [k1, ob_i]
  by_cases hz : ∃ k, k < lL (E35 um p s) (Cr um p) (Cr um s) 0 0 ∧ z = nI k
  · obtain ⟨k, hk, rfl⟩ := hz
    rcases m_pair (F := F) (x := x) (y := y) (z := nI k) (q := c) r1 hF with ⟨w, -, -, -, hn⟩ | ⟨s1, s2, k', a, b, w, g1, g2, g3, g4, g5, g6, g7, g8, g9, ok, c1, c2⟩
    · exact absurd (show prW um K x y (nI k) c from ⟨p, s, k, p1, q1, p2, q2, rfl, hk, qc⟩) hn
    · have t1 : s1 = p := xr_inj (act5 hK g1) p3 (g3.symm.trans p2)
      have t2 : s2 = s := xr_inj (act5 hK g2) q3 (g4.symm.trans q2)
      subst t1 t2
      have t3 : k' = k := nI_inj (by omega) (by omega) g5.symm
      subst t3
      obtain ⟨a', b', y1, y2, y3⟩ := k3'.2 k' hk
      obtain ⟨ya, yb⟩ := prR_u y3 g8
      subst ya yb
      obtain ⟨la, lb⟩ := prR_lt y3
      have hh : g_X0_has F (nI k') v = some 1 := by
        unfold g_X0_has
        rw [if_neg (nI_pos (by omega)), k3'.1, if_neg (nI_ge hk (by omega)), if_neg (show ¬ (100 : Int32) ≤ nI k' from nI_ge (a := k') (b := 100) (by omega) (by decide))]
      have d1 : g_X0_callOfOne F (nI k') v = some (nI a') := by
        unfold g_X0_callOfOne
        rw [hh, ob_i, if_neg one_n0, ck_t (inb_nI (by omega) (by decide)), rA_nI (by omega), y1]
      have d2 : g_X0_callOfOther F (nI k') v = some (nI b') := by
        unfold g_X0_callOfOther
        rw [hh, ob_i, if_neg one_n0, ck_t (inb_nI (by omega) (by decide)), rA_nI (by omega), y2]
      rw [hh, ob_i, if_neg one_n0]
      have hRv := Rel_ly h0 k2
      by_cases c0 : c = 0
      · subst c0
        rw [if_pos rfl, d1, ob_i]
        refine ⟨_, _, rfl, g9, ?_, Rel_e hRv m0 (c1 (by decide)) ok⟩
        show nI a' = prA um s1 s2 a' b' 0
        unfold prA
        rw [if_neg (by decide), if_pos rfl]
      rw [if_neg c0]
      by_cases c3 : c = 1
      · subst c3
        rw [if_pos rfl, d2, ob_i]
        refine ⟨_, _, rfl, g9, ?_, Rel_e hRv m0 (c1 (by decide)) ok⟩
        show nI b' = prA um s1 s2 a' b' 1
        unfold prA
        rw [if_neg (by decide), if_neg (by decide)]
      rw [if_neg c3]
      obtain ⟨fa, fn, f1, f2, f3, f4, f5⟩ : ∃ fa fn, g_X9_firstPlaceOf (c - 2) = nI fa ∧ g_X9_placesOf (c - 2) = nI fn ∧ fa + fn ≤ 40 ∧ prA um s1 s2 a' b' c = prB (rpm um s1 (tC um s1 a')).1 (rpm um s2 (tC um s2 b')).1 fa fn ∧ 2 ≤ c := by
        rcases is23 i1 i2 c0 c3 with rfl | rfl
        · exact ⟨0, 8, by decide, by decide, by omega, by unfold prA; rw [if_pos (by decide), if_pos rfl], by decide⟩
        · exact ⟨8, 32, by decide, by decide, by omega, by unfold prA; rw [if_pos (by decide), if_neg (by decide)], by decide⟩
      have T1 := tC_ok p5 la
      have T2 := tC_ok q5 lb
      have T1' : tC um s1 a' < Tr um s1 := T1.2
      have T2' : tC um s2 b' < Tr um s2 := T2.2
      have l1 : g_X1_read F (oR s1 + 24) (nI a') 0 v = some (nI (tC um s1 a')) := c_callAt k2 p4.2.2.1 oR_ge p5 la
      have l2 : g_X1_read F (oR s2 + 24) (nI b') 0 v = some (nI (tC um s2 b')) := c_callAt k2 q4.2.2.1 oR_ge q5 lb
      have u1 : g_X9_replay F (oR s1) (nI (tC um s1 a')) v = some (cSc v (oR s1) (nI (costM um s1 (tC um s1 a')))) := c_replay (F := F) (t := tC um s1 a') (Rel_run hRv m0 p1) p5 (Nat.le_of_lt T1') oR_ge hF
      have R1 : RelC pB (cSc v (oR s1) (nI (costM um s1 (tC um s1 a')))) (cS (sF um 0 35 0) s1 (nI (costM um s1 (tC um s1 a')))) := Rel_cS hRv m0 p1
      have m1 : okM (cS (sF um 0 35 0) s1 (nI (costM um s1 (tC um s1 a')))) K W := ⟨core_cS m0.1, simM_cS m0.2⟩
      have q1' : act (cS (sF um 0 35 0) s1 (nI (costM um s1 (tC um s1 a')))) K s2 := q1
      have u2' := c_replay (F := F) (t := tC um s2 b') (Rel_run R1 m1 q1') (m1.1.2.2.2.2.1 s2 q1') (Nat.le_of_lt T2') oR_ge hF
      have u2 : g_X9_replay F (oR s2) (nI (tC um s2 b')) (cSc v (oR s1) (nI (costM um s1 (tC um s1 a')))) = some (cSc (cSc v (oR s1) (nI (costM um s1 (tC um s1 a')))) (oR s2) (nI (costM um s2 (tC um s2 b')))) := u2'
      have R2 : RelC pB (cSc (cSc v (oR s1) (nI (costM um s1 (tC um s1 a')))) (oR s2) (nI (costM um s2 (tC um s2 b')))) (cS (cS (sF um 0 35 0) s1 (nI (costM um s1 (tC um s1 a')))) s2 (nI (costM um s2 (tC um s2 b')))) := Rel_cS R1 m1 q1'
      have m2 : okM (cS (cS (sF um 0 35 0) s1 (nI (costM um s1 (tC um s1 a')))) s2 (nI (costM um s2 (tC um s2 b')))) K W := ⟨core_cS m1.1, simM_cS m1.2⟩
      have p1' : act (cS (cS (sF um 0 35 0) s1 (nI (costM um s1 (tC um s1 a')))) s2 (nI (costM um s2 (tC um s2 b')))) K s1 := p1
      have q1'' : act (cS (cS (sF um 0 35 0) s1 (nI (costM um s1 (tC um s1 a')))) s2 (nI (costM um s2 (tC um s2 b')))) K s2 := q1
      have ul := c_unlike (F := F) (y := c - 2) (t1 := tC um s1 a') (t2 := tC um s2 b') (Rel_run R2 m2 p1') (Rel_run R2 m2 q1'') (Nat.le_of_lt T1') (Nat.le_of_lt T2') (Tr3 m2.1 p1') (Tr3 m2.1 q1'') hF f1 f2 f3
      rw [rpm_cS, rpm_cS, rpm_cS, rpm_cS] at ul
      rw [d1, ob_i, l1, ob_i, d2, ob_i, l2, ob_i, u1, ob_i, u2, ob_i, ul, ob_i]
      refine ⟨_, _, rfl, g9, ?_, Rel_e R2 m2 (c2 f5) ok⟩
      rw [f4]
      rfl
  · have e0 : g_X0_has F z v = some 0 := by
      unfold g_X0_has
      by_cases z0 : z < 0
      · rw [if_pos z0]
      · obtain ⟨k, hk, rfl⟩ := nI_of z0
        rw [if_neg z0, k3'.1, if_pos (nI_le (by
          have : ¬ k < lL (E35 um p s) (Cr um p) (Cr um s) 0 0 := fun w => hz ⟨k, w, rfl⟩
          omega) hk)]
    obtain ⟨zm, b1, b2, b3⟩ := bad v k2 (fun ⟨s1, s2, k, w1, w2, w3, w4, w5, w6, _⟩ => by
      have t1 := xr_inj p3 (act5 hK w1) (p2.symm.trans w3)
      have t2 := xr_inj q3 (act5 hK w2) (q2.symm.trans w4)
      subst t1 t2
      exact hz ⟨k, w6, w5⟩)
    exact ⟨(-1000001, v), zm, by rw [e0, ob_i, if_pos rfl], b1, b2, b3⟩
end YL
end W_88
section W_89
-- 97zzv.when
/-! the class and the reference: when -/
/-- x is the last by t with f -/
def LsT (f : Nat → Prop) (t : Nat) (x : Int32) : Prop := (x = -1 ∧ ∀ m, m ≤ t → ¬ f m) ∨ ∃ m, m ≤ t ∧ x = nI m ∧ f m ∧ ∀ m', m < m' → m' ≤ t → ¬ f m'
theorem LsT_u {f : Nat → Prop} {t : Nat} {x y : Int32} (h : LsT f t x) (h' : LsT f t y) : x = y := by
  rcases h with ⟨e, h⟩ | ⟨m, h1, e, h3, h4⟩
  · rcases h' with ⟨e', h'⟩ | ⟨m', g1, e', g3, g4⟩
    · rw [e, e']
    · exact absurd g3 (h m' g1)
  · rcases h' with ⟨e', h'⟩ | ⟨m', g1, e', g3, g4⟩
    · exact absurd h3 (h' m h1)
    · have : m = m' := by
        rcases Nat.lt_trichotomy m m' with y | y | y
        · exact absurd g3 (h4 m' y g1)
        · exact y
        · exact absurd h3 (g4 m y h1)
      rw [e, e', this]
theorem LsT_ext {f : Nat → Prop} {b b' : Nat} {x : Int32} (h : LsT f b' x) (hb : b' ≤ b) (hn : ∀ m, b' < m → m ≤ b → ¬ f m) : LsT f b x := by
  rcases h with ⟨e, h⟩ | ⟨m, h1, e, h3, h4⟩
  · refine Or.inl ⟨e, fun m hm => ?_⟩
    rcases Nat.lt_or_ge b' m with y | y
    · exact hn m y hm
    · exact h m y
  · refine Or.inr ⟨m, by omega, e, h3, fun m' a1 a2 => ?_⟩
    rcases Nat.lt_or_ge b' m' with y | y
    · exact hn m' y a2
    · exact h4 m' a1 y
theorem LsT_low {f : Nat → Prop} {b b' : Nat} {x : Int32} (h : LsT f b x) (hb : b' ≤ b) (hn : ∀ m, b' < m → m ≤ b → ¬ f m) : LsT f b' x := by
  rcases h with ⟨e, h⟩ | ⟨m, h1, e, h3, h4⟩
  · exact Or.inl ⟨e, fun m hm => h m (by omega)⟩
  · refine Or.inr ⟨m, ?_, e, h3, fun m' a1 a2 => h4 m' a1 (by omega)⟩
    rcases Nat.lt_or_ge b' m with y | y
    · exact absurd h3 (hn m y h1)
    · exact y
theorem LsT_c {f g : Nat → Prop} {t : Nat} {x : Int32} (h : LsT f t x) (e : ∀ m, m ≤ t → (f m ↔ g m)) : LsT g t x := by
  rcases h with ⟨e1, h⟩ | ⟨m, h1, e1, h3, h4⟩
  · exact Or.inl ⟨e1, fun m hm w => h m hm ((e m hm).mpr w)⟩
  · exact Or.inr ⟨m, h1, e1, (e m h1).mp h3, fun m' a1 a2 w => h4 m' a1 a2 ((e m' a2).mpr w)⟩
theorem LsT_nlt {f : Nat → Prop} {t : Nat} {x : Int32} (h : LsT f t x) (ht : t ≤ 3000) : ¬ nI t < x := by
  rcases h with ⟨e, -⟩ | ⟨m, h1, e, -⟩
  · rw [e, Int32.lt_iff_toInt_lt, nI_toInt (by omega), show (-1 : Int32).toInt = -1 from rfl]
    omega
  · rw [e]; exact nI_nlt h1 (by omega)
theorem pred_lt {a m : Nat} (h : a ≤ m) (hm : m ≤ 3000) : nI a - 1 < nI m := by
  rcases Nat.eq_zero_or_pos a with z | z
  · subst z
    rw [Int32.lt_iff_toInt_lt, nI_toInt (by omega), show (nI 0 - 1 : Int32).toInt = -1 from rfl]
    omega
  · rw [show nI a - 1 = nI (a - 1) from nI_sub (a := a) (b := 1) z]
    exact nI_lt (by omega) (by omega)
theorem hdA_ls {f : Nat → Prop} [∀ m, Decidable (f m)] {a : Nat} : ∀ k, (hdA f a k = -1 ∧ ∀ m, m < k → ¬ f (a + m)) ∨ ∃ m, m < k ∧ hdA f a k = nI (a + m) ∧ f (a + m) ∧ ∀ m', m < m' → m' < k → ¬ f (a + m')
  | 0 => Or.inl ⟨rfl, fun m hm => by omega⟩
  | k + 1 => by
    by_cases q : f (a + k)
    · exact Or.inr ⟨k, by omega, if_pos q, q, fun m' a1 a2 => by omega⟩
    · have e : hdA f a (k + 1) = hdA f a k := if_neg q
      rw [e]
      rcases hdA_ls (f := f) (a := a) k with ⟨h1, h2⟩ | ⟨m, h1, h2, h3, h4⟩
      · refine Or.inl ⟨h1, fun m hm => ?_⟩
        by_cases z : m = k
        · rw [z]; exact q
        · exact h2 m (by omega)
      · refine Or.inr ⟨m, by omega, h2, h3, fun m' a1 a2 => ?_⟩
        by_cases z : m' = k
        · rw [z]; exact q
        · exact h4 m' a1 (by omega)
/-- the value asked for, in the reference -/
abbrev vlF (u : rg_U) (r p : Nat) (s n : Int32) (m : Nat) : Prop := (rpm u r m).1 p = s ∧ (rpm u r m).1 (40 + p) = n
theorem whA_y {u : rg_U} {r p f b a : Nat} {s n : Int32} (ea : hk (Hm u r) (b / Ur u r) * Ur u r = a) (h : ¬ hdA (vlF u r p s n) a (b - a + 1) = -1) : whA u r p s n (f + 1) b = (hdA (vlF u r p s n) a (b - a + 1), b - a) := by
  subst ea
  show (if hdA (vlF u r p s n) _ _ = -1 then _ else _) = _
  rw [if_neg h]
theorem whA_0 {u : rg_U} {r p f b a : Nat} {s n : Int32} (ea : hk (Hm u r) (b / Ur u r) * Ur u r = a) (h : hdA (vlF u r p s n) a (b - a + 1) = -1) (h0 : a = 0) : whA u r p s n (f + 1) b = (-1, b) := by
  subst ea
  show (if hdA (vlF u r p s n) _ _ = -1 then (if _ then _ else _) else _) = _
  rw [if_pos h, if_pos h0]
theorem whA_n {u : rg_U} {r p f b a : Nat} {s n : Int32} (ea : hk (Hm u r) (b / Ur u r) * Ur u r = a) (h : hdA (vlF u r p s n) a (b - a + 1) = -1) (h0 : ¬ a = 0) : whA u r p s n (f + 1) b = ((whA u r p s n f (a - 1)).1, (b - a) + (whA u r p s n f (a - 1)).2) := by
  subst ea
  show (if hdA (vlF u r p s n) _ _ = -1 then (if _ then _ else _) else _) = _
  rw [if_pos h, if_neg h0]
theorem whA_ls {u : rg_U} {r p : Nat} {s n : Int32} : ∀ (f b : Nat), b < f → b ≤ 3000 → LsT (vlF u r p s n) b (whA u r p s n f b).1
  | 0, b, h, _ => by omega
  | f + 1, b, h, h3 => by
    have hle : hk (Hm u r) (b / Ur u r) * Ur u r ≤ b := Nat.le_trans (Nat.mul_le_mul_right _ (hk_le _ _)) (Nat.div_mul_le_self b (Ur u r))
    obtain ⟨a, ea⟩ : ∃ a, hk (Hm u r) (b / Ur u r) * Ur u r = a := ⟨_, rfl⟩
    rw [ea] at hle
    rcases hdA_ls (f := vlF u r p s n) (a := a) (b - a + 1) with ⟨h1, h2⟩ | ⟨m, h1, h2, h4, h5⟩
    · have hn : ∀ m, a ≤ m → m ≤ b → ¬ vlF u r p s n m := fun m x1 x2 => by
        have := h2 (m - a) (by omega)
        rwa [show a + (m - a) = m by omega] at this
      by_cases z : a = 0
      · rw [whA_0 ea h1 z]
        exact Or.inl ⟨rfl, fun m hm => hn m (by omega) hm⟩
      · rw [whA_n ea h1 z]
        exact LsT_ext (whA_ls f (a - 1) (by omega) (by omega)) (by omega) (fun m x1 x2 => hn m (by omega) x2)
    · rw [whA_y ea (by rw [h2]; exact nI_m1 (by omega))]
      refine Or.inr ⟨a + m, by omega, h2, h4, fun m' x1 x2 => ?_⟩
      have := h5 (m' - a) (by omega) (by omega)
      rwa [show a + (m' - a) = m' by omega] at this
/-- the value asked for, by the puts -/
def hvF (u : rg_U) (q p N : Nat) (s n : Int32) (m : Nat) : Prop := vS (u.2.1 (q + 3)) 0 (lat (u.2.1 (q + 2)) p (cP (u.2.1 (q + 1)) m N)) = s ∧ vS (u.2.1 (q + 4)) 0 (lat (u.2.1 (q + 2)) p (cP (u.2.1 (q + 1)) m N)) = n
section YM
variable {pB : Prop} {F K W o r t p q T N : Nat} {u uc um : rg_U} {x y z s n v : Int32}
theorem c_hadl (hP : PI u q T N) (hp : p < 40) : ∀ (G k b l : Nat), k + 2 < G → k ≤ N → k ≤ l → l ≤ N → b ≤ 3000 → cP (u.2.1 (q + 1)) b N ≤ k → ∃ y x, lp (fun (z : Int32 × Int32 × Int32) => g_X6_hadBy_l16 F q s n u z.1 z.2.1 z.2.2) G (nI b, lat (u.2.1 (q + 2)) p k, nI l) = some y ∧ os y (fun r => some r) (fun _ => some (-1 : Int32)) = some x ∧ LsT (hvF u q p N s n) b x
  | 0, k, b, l, hG, _, _, _, _, _ => by omega
  | G + 1, k, b, l, hG, hk, hkl, hl, hb, hc => by
    obtain ⟨hN, h8, hT, hm, hlt, hx⟩ := id hP
    have hend : ∀ (c y l' : Int32), c < 0 → g_X6_hadBy_l16 F q s n u c y l' = some (.inr (Sum.inr ())) := fun c y l' h => by
      unfold g_X6_hadBy_l16
      by_cases w : l' < 0
      · rw [if_pos w]
      · rw [if_neg w, if_pos h]
    have hst : ∀ {c y l' : Int32}, c < 0 → g_X6_hadBy_l16 F q s n u (nI b) (lat (u.2.1 (q + 2)) p k) (nI l) = some (.inl (c, y, l')) → lp (fun (z : Int32 × Int32 × Int32) => g_X6_hadBy_l16 F q s n u z.1 z.2.1 z.2.2) (G + 1) (nI b, lat (u.2.1 (q + 2)) p k, nI l) = some (Sum.inr ()) := fun {c y l'} h e => by
      rw [lp_l (body := fun (z : Int32 × Int32 × Int32) => g_X6_hadBy_l16 F q s n u z.1 z.2.1 z.2.2) (s := (nI b, lat (u.2.1 (q + 2)) p k, nI l)) e]
      match G, hG with
      | 0, hG => omega
      | G + 1, hG => exact lp_r (hend c y l' h)
    rcases lat_pt (pp := u.2.1 (q + 2)) (p := p) k with e | ⟨a, ha, e⟩
    · have hno := lat_none (pp := u.2.1 (q + 2)) (p := p) k (by omega) e
      have hlm : ∀ m, m ≤ b → lat (u.2.1 (q + 2)) p (cP (u.2.1 (q + 1)) m N) = -1 := fun m hm' => by
        have c1 := cP_mono (pt := u.2.1 (q + 1)) hm' N
        rw [← lat_skip (pp := u.2.1 (q + 2)) (p := p) (M := cP (u.2.1 (q + 1)) m N) k (by omega) (fun i _ hi => hno i hi), e]
      by_cases w : vS (u.2.1 (q + 3)) 0 (-1) = s ∧ vS (u.2.1 (q + 4)) 0 (-1) = n
      · have hb1 : g_X6_hadBy_l16 F q s n u (nI b) (lat (u.2.1 (q + 2)) p k) (nI l) = some (.inr (Sum.inl (nI b))) := by
          unfold g_X6_hadBy_l16
          rw [if_neg (nI_pos (by omega)), if_neg (nI_pos (by omega)), e, x6_time hN h8 (Or.inl rfl), ob_i, vS_0, if_neg (nI_pos (by omega)), x6_value hN h8 (Or.inl rfl), ob_i, if_pos w, if_neg one_n0]
        refine ⟨_, _, lp_r hb1, rfl, Or.inr ⟨b, Nat.le_refl _, rfl, ?_, fun m' x1 x2 => by omega⟩⟩
        unfold hvF
        rw [hlm b (Nat.le_refl _)]
        exact w
      · have hb1 : g_X6_hadBy_l16 F q s n u (nI b) (lat (u.2.1 (q + 2)) p k) (nI l) = some (.inl ((0 : Int32) - 1, -1, nI l + (-1))) := by
          unfold g_X6_hadBy_l16 g_X6_hadBy_j62
          rw [if_neg (nI_pos (by omega)), if_neg (nI_pos (by omega)), e, x6_time hN h8 (Or.inl rfl), ob_i, vS_0, if_neg (nI_pos (by omega)), x6_value hN h8 (Or.inl rfl), ob_i, if_neg w, if_pos rfl, ob_i, x6_ahead hN h8 (Or.inl rfl), ob_i, vS_0]
        refine ⟨_, _, hst (by decide) hb1, rfl, Or.inl ⟨rfl, fun m hm' w2 => w ?_⟩⟩
        unfold hvF at w2
        rw [hlm m hm'] at w2
        exact w2
    · obtain ⟨l1, l2, l3⟩ := lat_some (pp := u.2.1 (q + 2)) (p := p) k (by omega) e (by omega)
      obtain ⟨τ, p', d1, d2, d3, d4, d5, -⟩ := hx a (by omega)
      have ep : p = p' := (nI_inj (by omega) (by omega) (d4.symm.trans l2)).symm
      subst ep
      have hti : ∀ m, a < cP (u.2.1 (q + 1)) m N ↔ τ ≤ m := fun m => by
        rw [cP_iff N hm a (by omega), d3, tnn (by omega)]
      have hlm : ∀ m, τ ≤ m → m ≤ b → lat (u.2.1 (q + 2)) p (cP (u.2.1 (q + 1)) m N) = nI a := fun m h1 h2 => by
        have c1 := cP_mono (pt := u.2.1 (q + 1)) h2 N
        exact lat_at ((hti m).mpr h1) l2 (fun i i1 i2 => l3 i i1 (by omega))
      have hap : isPt N (nI a) := Or.inr ⟨a, by omega, rfl⟩
      have ele : nI l + (-1) = nI (l - 1) := by
        have := nI_dec (k := l - 1)
        rwa [show l - 1 + 1 = l by omega] at this
      by_cases w : b < τ
      · have hb1 : g_X6_hadBy_l16 F q s n u (nI b) (lat (u.2.1 (q + 2)) p k) (nI l) = some (.inl (nI b, lat (u.2.1 (q + 2)) p a, nI (l - 1))) := by
          unfold g_X6_hadBy_l16 g_X6_hadBy_j62
          rw [if_neg (nI_pos (by omega)), if_neg (nI_pos (by omega)), e, x6_time hN h8 hap, ob_i, vS_n (by omega), d3, if_pos (nI_lt w (by omega)), x6_ahead hN h8 hap, ob_i, vS_n (by omega), d5, ele]
        obtain ⟨y, x, g1, g2, g3⟩ := c_hadl hP hp G a b (l - 1) (by omega) (by omega) (by omega) (by omega) hb (by
          have := hti b
          omega)
        exact ⟨y, x, (lp_l (body := fun (z : Int32 × Int32 × Int32) => g_X6_hadBy_l16 F q s n u z.1 z.2.1 z.2.2) (s := (nI b, lat (u.2.1 (q + 2)) p k, nI l)) hb1).trans g1, g2, g3⟩
      · by_cases w2 : vS (u.2.1 (q + 3)) 0 (nI a) = s ∧ vS (u.2.1 (q + 4)) 0 (nI a) = n
        · have hb1 : g_X6_hadBy_l16 F q s n u (nI b) (lat (u.2.1 (q + 2)) p k) (nI l) = some (.inr (Sum.inl (nI b))) := by
            unfold g_X6_hadBy_l16
            rw [if_neg (nI_pos (by omega)), if_neg (nI_pos (by omega)), e, x6_time hN h8 hap, ob_i, vS_n (by omega), d3, if_neg (nI_nlt (by omega) (by omega)), x6_value hN h8 hap, ob_i, if_pos w2, if_neg one_n0]
          refine ⟨_, _, lp_r hb1, rfl, Or.inr ⟨b, Nat.le_refl _, rfl, ?_, fun m' x1 x2 => by omega⟩⟩
          unfold hvF
          rw [hlm b (by omega) (Nat.le_refl _)]
          exact w2
        · have hb1 : g_X6_hadBy_l16 F q s n u (nI b) (lat (u.2.1 (q + 2)) p k) (nI l) = some (.inl (nI τ - 1, lat (u.2.1 (q + 2)) p a, nI (l - 1))) := by
            unfold g_X6_hadBy_l16 g_X6_hadBy_j62
            rw [if_neg (nI_pos (by omega)), if_neg (nI_pos (by omega)), e, x6_time hN h8 hap, ob_i, vS_n (by omega), d3, if_neg (nI_nlt (by omega) (by omega)), x6_value hN h8 hap, ob_i, if_neg w2, if_pos rfl, ob_i, x6_ahead hN h8 hap, ob_i, vS_n (by omega), d5, ele]
          have hno : ∀ m, τ ≤ m → m ≤ b → ¬ hvF u q p N s n m := fun m h1 h2 w3 => by
            unfold hvF at w3
            rw [hlm m h1 h2] at w3
            exact w2 w3
          by_cases w4 : τ = 0
          · refine ⟨_, _, hst (c := nI τ - 1) (by rw [w4]; decide) hb1, rfl, Or.inl ⟨rfl, fun m hm' => hno m (by omega) hm'⟩⟩
          · rw [show nI τ - 1 = nI (τ - 1) from nI_sub (a := τ) (b := 1) (by omega)] at hb1
            obtain ⟨y, x, g1, g2, g3⟩ := c_hadl hP hp G a (τ - 1) (l - 1) (by omega) (by omega) (by omega) (by omega) (by omega) (by
              have := hti (τ - 1)
              omega)
            exact ⟨y, x, (lp_l (body := fun (z : Int32 × Int32 × Int32) => g_X6_hadBy_l16 F q s n u z.1 z.2.1 z.2.2) (s := (nI b, lat (u.2.1 (q + 2)) p k, nI l)) hb1).trans g1, g2, LsT_ext g3 (by omega) (fun m x1 x2 => hno m (by omega) x2)⟩
theorem c_hadBy (hP : PI u q T N) (hp : p < 40) (ht : t ≤ 3000) (hF : 10000 < F) : ∃ x, g_X6_hadBy F q (nI t) (nI p) s n u = some x ∧ LsT (hvF u q p N s n) t x := by
  obtain ⟨hN, h8, hT, hm, hlt, hx⟩ := id hP
  obtain ⟨y, x, g1, g2, g3⟩ := c_hadl (F := F) (s := s) (n := n) hP hp F N t N (by omega) (Nat.le_refl _) (Nat.le_refl _) (Nat.le_refl _) ht (cP_le N)
  refine ⟨x, ?_, g3⟩
  unfold g_X6_hadBy
  rw [x6_latest hp, ob_i, hlt p hp, hN, g1, ob_i]
  exact g2
/-- how many steps it costs to find -/
theorem c_steps {n' : Nat} {f : Nat → Nat} (hn : rF u o 1 = nI n') (h64 : n' ≤ 64) (ha : ∀ i, i < n' → u.2.1 (o + 1) i = nI (f i * Ur um r)) (hl : HL f n' (fun k => k ≤ 3000 ∧ ¬ Hm um r k = 0)) (hU : 0 < Ur um r) (h0 : ¬ Hm um r 0 = 0) (hT : ∀ i, i < n' → f i * Ur um r ≤ 3000) (hF : 10000 < F) : ∀ (G i b c fu : Nat), i < G → i ≤ n' → b ≤ 3000 → b < fu → (∀ j, i ≤ j → j < n' → b < f j * Ur um r) → LsT (vlF um r p s n) b x → lp (fun (z : Int32 × Int32 × Int32) => g_X2_stepsToFind_l13 F o x u z.1 z.2.1 z.2.2) G (nI c, nI b, nI i + (-1)) = some (nI (c + (whA um r p s n fu b).2))
  | 0, i, b, c, fu, hG, _, _, _, _, _ => by omega
  | G + 1, 0, b, c, fu, hG, h1, h2, h3, h4, h5 => by
    obtain ⟨z, hz, ez⟩ := (hl.2 0).mp ⟨by omega, h0⟩
    have f0 : f 0 = 0 := by have := HL_le hl (Nat.zero_le z) hz; omega
    have := h4 0 (Nat.le_refl _) (by omega)
    rw [f0] at this
    omega
  | G + 1, i + 1, b, c, 0, hG, h1, h2, h3, h4, h5 => by omega
  | G + 1, i + 1, b, c, fu + 1, hG, h1, h2, h3, h4, h5 => by
    have hti := hT i (by omega)
    have e1 : g_X2_timeOf F o (nI i) u = some (nI (f i * Ur um r)) := by rw [x2_time hn h64 (by omega), ha i (by omega)]
    rw [nI_dec]
    by_cases w : b < f i * Ur um r
    · have hb : g_X2_stepsToFind_l13 F o x u (nI c) (nI b) (nI i) = some (.inl (nI c, nI b, nI i + (-1))) := by
        unfold g_X2_stepsToFind_l13 g_X2_stepsToFind_j57
        rw [if_neg (nI_pos (by omega)), if_neg (LsT_nlt h5 h2), e1, ob_i, if_pos (nI_lt w (by omega))]
      rw [lp_l (body := fun (z : Int32 × Int32 × Int32) => g_X2_stepsToFind_l13 F o x u z.1 z.2.1 z.2.2) (s := (nI c, nI b, nI i)) hb]
      refine c_steps hn h64 ha hl hU h0 hT hF G i b c (fu + 1) (by omega) (by omega) h2 h3 (fun j j1 j2 => ?_) h5
      by_cases z : j = i
      · rw [z]; exact w
      · exact h4 j (by omega) j2
    · obtain ⟨a, eA⟩ : ∃ a, f i * Ur um r = a := ⟨_, rfl⟩
      have ea : hk (Hm um r) (b / Ur um r) * Ur um r = a := by
        have hle : f i ≤ b / Ur um r := (Nat.le_div_iff_mul_le hU).mpr (by omega)
        obtain ⟨b1, b2⟩ := (hl.2 (f i)).mpr ⟨i, by omega, rfl⟩
        rw [hk_is (b / Ur um r) hle (Or.inr b2) (fun j c1 c2 => Classical.byContradiction fun c3 => ?_)]
        · exact eA
        · have hj3 : j ≤ 3000 := by have := Nat.div_le_self b (Ur um r); omega
          obtain ⟨a', ha', ea'⟩ := (hl.2 j).mp ⟨hj3, c3⟩
          have hai : i + 1 ≤ a' := by
            rcases Nat.lt_or_ge a' (i + 1) with y | y
            · have := HL_le hl (show a' ≤ i by omega) (by omega)
              omega
            · exact y
          have h6 : j * Ur um r ≤ b := (Nat.le_div_iff_mul_le hU).mp c2
          have h7 := h4 a' hai ha'
          rw [ea'] at h7
          omega
      rw [eA] at hti w e1
      have hb : g_X2_stepsToFind_l13 F o x u (nI c) (nI b) (nI i) = some (.inl (nI (c + (b - a)), nI a - 1, nI i + (-1))) := by
        unfold g_X2_stepsToFind_l13 g_X2_stepsToFind_j57
        rw [if_neg (nI_pos (by omega)), if_neg (LsT_nlt h5 h2), e1, ob_i, if_neg (nI_nlt (by omega) (by omega)), ob_i, ob_i, nI_sub (show a ≤ b by omega), nI_add]
      rw [lp_l (body := fun (z : Int32 × Int32 × Int32) => g_X2_stepsToFind_l13 F o x u z.1 z.2.1 z.2.2) (s := (nI c, nI b, nI i)) hb]
      have stop : ∀ (l4 l5 : Int32), (l5 < 0 ∨ l4 < x) → lp (fun (z : Int32 × Int32 × Int32) => g_X2_stepsToFind_l13 F o x u z.1 z.2.1 z.2.2) G (nI (c + (b - a)), l4, l5) = some (nI (c + (b - a))) := fun l4 l5 h => by
        have hb2 : g_X2_stepsToFind_l13 F o x u (nI (c + (b - a))) l4 l5 = some (.inr (nI (c + (b - a)))) := by
          unfold g_X2_stepsToFind_l13
          by_cases w1 : l5 < 0
          · rw [if_pos w1]
          · rcases h with h | h
            · exact absurd h w1
            · rw [if_neg w1, if_pos h]
        match G, hG with
        | 0, hG => omega
        | G + 1, hG => exact lp_r hb2
      rcases hdA_ls (f := vlF um r p s n) (a := a) (b - a + 1) with ⟨g1, g2⟩ | ⟨m, g1, g2, g3, g4⟩
      · have hno : ∀ m, a ≤ m → m ≤ b → ¬ vlF um r p s n m := fun m x1 x2 => by
          have := g2 (m - a) (by omega)
          rwa [show a + (m - a) = m by omega] at this
        by_cases z : a = 0
        · have hi0 : i = 0 := by
            rcases Nat.eq_zero_or_pos i with y | y
            · exact y
            · have h6 := hl.1 0 i y (by omega)
              have h7 : 1 * Ur um r ≤ f i * Ur um r := Nat.mul_le_mul_right _ (by omega)
              omega
          rw [whA_0 ea g1 z, stop _ _ (Or.inl (by rw [hi0]; decide))]
          dsimp only
          rw [z, Nat.sub_zero]
        · rw [whA_n ea g1 z, show nI a - 1 = nI (a - 1) from nI_sub (a := a) (b := 1) (by omega), c_steps hn h64 ha hl hU h0 hT hF G i (a - 1) (c + (b - a)) fu (by omega) (by omega) (by omega) (by omega) (fun j j1 j2 => ?_) (LsT_low h5 (by omega) (fun m x1 x2 => hno m (by omega) x2))]
          · dsimp only
            rw [Nat.add_assoc]
          · have h6 : f i * Ur um r ≤ f j * Ur um r := Nat.mul_le_mul_right _ (HL_le hl j1 j2)
            omega
      · have hx : x = nI (a + m) := LsT_u h5 (Or.inr ⟨a + m, by omega, rfl, g3, fun m' x1 x2 => by
          have := g4 (m' - a) (by omega) (by omega)
          rwa [show a + (m' - a) = m' by omega] at this⟩)
        rw [whA_y ea (by rw [g2]; exact nI_m1 (by omega)), stop _ _ (Or.inr (by rw [hx]; exact pred_lt (by omega) (by omega)))]
theorem c_when (hR : RR pB uc um o r) (hro : runOK um r) (ht : t ≤ Tr um r) (hp : p < 40) (hT3 : Tr um r ≤ 3000) (hF : 10000 < F) : g_X6_hadBy F (o + 12) (nI t) (nI p) s n uc = some (whA um r p s n 3001 t).1 ∧ g_X2_stepsToFind F (o + 28) (whA um r p s n 3001 t).1 (nI t) uc = some (nI (whA um r p s n 3001 t).2) := by
  obtain ⟨N, hS⟩ := hR.2.2.2.2.2.2
  have hP := hS.2.2.2.1
  obtain ⟨x, g1, g2⟩ := c_hadBy (F := F) (s := s) (n := n) hP hp (show t ≤ 3000 by omega) hF
  have g3 : LsT (vlF um r p s n) t x := LsT_c g2 (fun m hm => by
    have w := (hS.2.2.2.2 m (by omega)).1 p hp
    dsimp only at w
    rw [show o + 13 = o + 12 + 1 from rfl] at w
    unfold hvF vlF
    rw [w.1, w.2.1])
  have hls := whA_ls (u := um) (r := r) (p := p) (s := s) (n := n) 3001 t (by omega) (by omega)
  have ex := LsT_u g3 hls
  refine ⟨by rw [g1, ex], ?_⟩
  obtain ⟨-, -, n', f, hn, h64, ha, hl⟩ := hR.2.2.2.1
  have hH := hro.2.2.2.2.2.2.2.1
  have h := c_steps (F := F) (c := 0) (fu := 3001) (p := p) (s := s) (n := n) hn h64 ha hl hro.2.2.2.2.2.1.1 (by rw [hH.1]; decide) (fun i hi => by
    obtain ⟨a1, a2⟩ := (hl.2 (f i)).mpr ⟨i, hi, rfl⟩
    rcases hH.2 (f i) a1 with w | w
    · exact absurd w a2
    · have := w.2
      omega) hF F n' t (by omega) (Nat.le_refl _) (by omega) (by omega) (fun j j1 j2 => by omega) hls
  unfold g_X2_stepsToFind
  rw [hn, show nI n' - 1 = nI n' + (-1) from Int32.sub_eq_add_neg _ _]
  rw [show nI 0 = (0 : Int32) from rfl, Nat.zero_add] at h
  rw [h, ob_i]
theorem sr_when (hF : 10000 < F) : SB pB (g_X9_when F x y s n) (g_X10_when F x y s n) := fun uc um h => by
  obtain ⟨K, W, r1, -⟩ := id h
  have h0 := Rel_zero h
  have m0 : okM (sF um 0 35 0) K W := okM_34 (by omega) r1
  have eA : aR (sF um 0 35 0) = aR um := rfl
  unfold g_X9_when
  rw [lt1_i]
  rcases Rel_ask (F := F) h0 m0 with ⟨e5, en⟩ | ⟨ea, e5, h5, en, hR⟩
  · rw [en, ob_i, om_0]
    rcases m_when (F := F) (x := x) (y := y) (s := s) (n := n) r1 hF with ⟨-, q, -⟩ | ⟨t, p, u', -, w, -⟩
    · exact ⟨_, _, rfl, q, rfl, h0⟩
    · rw [show um.2.1 5 (aR um) = 0 from e5] at w
      exact absurd w (by decide)
  · have hro := m0.1.2.2.2.2.1 _ ea
    have hT3 := hro.2.2.2.2.2.2.1.1.2.2.2.1
    rw [eA] at *
    obtain ⟨N, hS⟩ := hR.2.2.2.2.2.2
    rw [en, ob_i, om_i, ck_t (oR_rn h5), cl_place, cl_value]
    have bad : ¬ (isTm um x ∧ ¬ g_X10_isPlace y = 0 ∧ ¬ g_X10_isValue s n = 0) → ∃ zm, g_X10_when F x y s n um = some zm ∧ (-2 : Int32) = zm.1 ∧ RelC pB (sF uc 0 13 0) zm.2 := fun hb => by
      rcases m_when (F := F) (x := x) (y := y) (s := s) (n := n) r1 hF with ⟨-, q, -⟩ | ⟨t, p, u', -, w1, w2, w3, w4, w5, w6, -⟩
      · exact ⟨_, q, rfl, h0⟩
      · exact absurd ⟨⟨w1, t, w2, w3⟩, by rw [w5]; exact in_nI (a := 0) (b := 39) (by omega) (by omega) (by decide), w6⟩ hb
    rcases x7_hasI (F := F) (x := x) hS.1 hT3 with ⟨q1, q2⟩ | ⟨t, ht, rfl, q1⟩
    · rw [q1, ob_i, if_pos rfl]
      obtain ⟨zm, b1, b2, b3⟩ := bad (fun w => q2 w.1.2)
      exact ⟨_, zm, rfl, b1, b2, b3⟩
    rw [q1, ob_i, if_neg (by decide)]
    by_cases q2 : g_X10_isPlace y = 0
    · rw [if_pos q2]
      obtain ⟨zm, b1, b2, b3⟩ := bad (fun w => w.2.1 q2)
      exact ⟨_, zm, rfl, b1, b2, b3⟩
    rw [if_neg q2]
    by_cases q3 : g_X10_isValue s n = 0
    · rw [if_pos q3]
      obtain ⟨zm, b1, b2, b3⟩ := bad (fun w => w.2.2 q3)
      exact ⟨_, zm, rfl, b1, b2, b3⟩
    rw [if_neg q3]
    rcases m_when (F := F) (x := nI t) (y := y) (s := s) (n := n) r1 hF with ⟨w, -⟩ | ⟨t2, p, u', w0, w1, w2, w3, w4, w5, w6, q, hok, hce⟩
    · exact absurd ⟨⟨e5, t, ht, rfl⟩, q2, q3⟩ w
    · have hT3' : Tr um (aR um) ≤ 3000 := hT3
      have ht' : t ≤ Tr um (aR um) := ht
      have et : t2 = t := nI_inj (by omega) (by omega) w3.symm
      subst et
      have ho := oR_ge (r := aR um)
      obtain ⟨c1, c2⟩ := c_when (F := F) (t := t2) (p := p) (s := s) (n := n) hR hro ht w4 hT3 hF
      rw [whA_s] at c1 c2
      have cnt : ∀ v, g_X9_count F (oR (aR um)) v (sF uc 0 13 0) = some (cSc (sF uc 0 13 0) (oR (aR um)) v) := fun v => by
        unfold g_X9_count
        rw [lt1_i, lt1_i, show rF (sF (sF uc 0 13 0) (oR (aR um)) 12 (rF (sF uc 0 13 0) (oR (aR um)) 12 + v)) 0 13 = rF (sF uc 0 13 0) 0 13 from sF_n (by omega)]
      rw [w5] at q
      rw [w5, c1, ob_i, c2, ob_i, cnt, ob_i]
      exact ⟨_, _, rfl, q, rfl, Rel_e (Rel_cS h0 m0 ea) ⟨core_cS m0.1, simM_cS m0.2⟩ hce hok⟩
end YM
end W_89
section W_90
-- 97zzw.parts
/-! the class and the reference: parts -/
section YN
variable {pB : Prop} {F K W o o1 o2 r r1 r2 q T N T1 T2 N1 N2 : Nat} {u uc um v w : rg_U} {x y z : Int32} {A B : Nat → Row} {l1 l2 : Nat → Nat}
theorem RunS_ly (h : RunS uc o T N A l1) (hu : lyX uc u) (ho : 116 ≤ o) : RunS u o T N A l1 := by
  obtain ⟨b1, b2, b3, b4, b5⟩ := h
  have ha : ∀ j, 115 ≤ j → u.2.1 j = uc.2.1 j := fun j hj => hu.2.1 j (Or.inr hj)
  refine ⟨(hu.2.2 _ (by omega)).trans b1, b2, fun t ht => SI_c (b3 t ht) (fun s _ => by rw [ha _ (by omega)]) (by rw [ha _ (by omega)]) (by rw [ha _ (by omega)]) (by rw [ha _ (by omega)]) (fun _ _ => rfl), PI_c b4 (hu.2.2 _ (by omega)) (fun j j1 j2 => ha j (by omega)) (ha _ (by omega)), fun t ht => ?_⟩
  rw [ha (o + 13) (by omega)]
  exact ⟨PRow_c (b5 t ht).1 (fun j j1 j2 => ha j (by omega)), (b5 t ht).2⟩
theorem c_stl (h1 : RunS u o1 T1 N1 A l1) (h2 : RunS u o2 T2 N2 B l2) : ∀ (d1 i t1 t2 d2 : Nat), t1 ≤ T1 → t2 ≤ T2 → A t1 121 = nI d1 → B t2 121 = nI d2 → i + d1 ≤ 8 → i + d2 ≤ 8 → ∀ G, d1 < G → ∃ y x, lp (fun (z : Int32 × Int32 × Int32) => g_X7_hasStackLike_l16 F o1 o2 u z.1 z.2.1 z.2.2) G (u.2.1 (o1 + 33) t1, u.2.1 (o2 + 33) t2, nI i) = some y ∧ os y (fun _ => some (0 : Int32)) (fun r => g_X7_hasStackLike_j70 F r.1 r.2 u) = some x ∧ (¬ x = 0 ↔ (d1 = d2 ∧ ∀ e, e < d1 → A t1 (122 + e) = B t2 (122 + e)))
  | d1, i, t1, t2, d2, ht1, ht2, e1, e2, hd1, hd2, 0, hG => by omega
  | 0, i, t1, t2, d2, ht1, ht2, e1, e2, hd1, hd2, G + 1, hG => by
    obtain ⟨da, a1, a2, a3, -⟩ := (h1.2.2.1 t1 ht1).2.2.2
    have eda : da = 0 := nI_inj (by omega) (by omega) (a2.symm.trans e1)
    have hb : g_X7_hasStackLike_l16 F o1 o2 u (u.2.1 (o1 + 33) t1) (u.2.1 (o2 + 33) t2) (nI i) = some (.inr (Sum.inr (-1, u.2.1 (o2 + 33) t2))) := by
      unfold g_X7_hasStackLike_l16
      rw [a3 eda]
      by_cases w : (8 : Int32) ≤ nI i
      · rw [if_pos w]
      · rw [if_neg w, if_pos rfl]
    obtain ⟨db, b1, b2, b3, b4⟩ := (h2.2.2.1 t2 ht2).2.2.2
    have edb : db = d2 := nI_inj (by omega) (by omega) (b2.symm.trans e2)
    subst edb
    match db, b3, b4 with
    | 0, b3, b4 =>
      refine ⟨_, 1, lp_r hb, ?_, ⟨fun _ => ⟨rfl, fun e he => by omega⟩, fun _ => by decide⟩⟩
      show g_X7_hasStackLike_j70 F (-1) (u.2.1 (o2 + 33) t2) u = _
      unfold g_X7_hasStackLike_j70
      rw [if_pos rfl, if_pos (b3 rfl)]
    | e + 1, b3, b4 =>
      obtain ⟨s, c1, c2, -⟩ := b4 e rfl
      refine ⟨_, 0, lp_r hb, ?_, ⟨fun w => absurd rfl w, fun w => by have := w.1; omega⟩⟩
      show g_X7_hasStackLike_j70 F (-1) (u.2.1 (o2 + 33) t2) u = _
      unfold g_X7_hasStackLike_j70
      rw [if_pos rfl, c2, if_neg (nI_m1 (by have := h2.2.1; omega))]
  | n1 + 1, i, t1, t2, d2, ht1, ht2, e1, e2, hd1, hd2, G + 1, hG => by
    have hT1 := h1.2.1
    have hT2 := h2.2.1
    obtain ⟨da, a1, a2, -, a4⟩ := (h1.2.2.1 t1 ht1).2.2.2
    have eda : da = n1 + 1 := nI_inj (by omega) (by omega) (a2.symm.trans e1)
    obtain ⟨s1, c1, c2, c3, c4, c5⟩ := a4 n1 eda
    obtain ⟨db, b1, b2, b3, b4⟩ := (h2.2.2.1 t2 ht2).2.2.2
    have edb : db = d2 := nI_inj (by omega) (by omega) (b2.symm.trans e2)
    have h8 : ¬ (8 : Int32) ≤ nI i := nI_ge (a := i) (b := 8) (by omega) (by decide)
    match d2, e2, hd2, edb with
    | 0, e2, hd2, edb =>
      have hb : g_X7_hasStackLike_l16 F o1 o2 u (u.2.1 (o1 + 33) t1) (u.2.1 (o2 + 33) t2) (nI i) = some (.inr (Sum.inr (nI s1, -1))) := by
        unfold g_X7_hasStackLike_l16
        rw [c2, b3 edb, if_neg h8, if_neg (nI_m1 (by omega)), if_pos rfl]
      refine ⟨_, 0, lp_r hb, ?_, ⟨fun w => absurd rfl w, fun w => by have := w.1; omega⟩⟩
      show g_X7_hasStackLike_j70 F (nI s1) (-1) u = _
      unfold g_X7_hasStackLike_j70
      rw [if_neg (nI_m1 (by omega))]
    | n2 + 1, e2, hd2, edb =>
      obtain ⟨s2, f1, f2, f3, f4, f5⟩ := b4 n2 edb
      by_cases w : u.2.1 (o1 + 30) s1 = u.2.1 (o2 + 30) s2
      · have hb : g_X7_hasStackLike_l16 F o1 o2 u (u.2.1 (o1 + 33) t1) (u.2.1 (o2 + 33) t2) (nI i) = some (.inl (u.2.1 (o1 + 33) s1, u.2.1 (o2 + 33) s2, nI (i + 1))) := by
          unfold g_X7_hasStackLike_l16
          rw [c2, f2, if_neg h8, if_neg (nI_m1 (by omega)), if_neg (nI_m1 (by omega)), x7_counter h1.1 hT1 (by omega), ob_i, x7_counter h2.1 hT2 (by omega), ob_i, if_pos w, x7_top h1.1 hT1 (by omega), ob_i, x7_top h2.1 hT2 (by omega), ob_i, nI_1]
        obtain ⟨y, x, g1, g2, g3⟩ := c_stl h1 h2 n1 (i + 1) s1 s2 n2 (by omega) (by omega) c4 f4 (by omega) (by omega) G (by omega)
        refine ⟨y, x, (lp_l (body := fun (z : Int32 × Int32 × Int32) => g_X7_hasStackLike_l16 F o1 o2 u z.1 z.2.1 z.2.2) (s := (u.2.1 (o1 + 33) t1, u.2.1 (o2 + 33) t2, nI i)) hb).trans g1, g2, g3.trans ⟨fun ⟨k1, k2⟩ => ⟨by omega, fun e he => ?_⟩, fun ⟨k1, k2⟩ => ⟨by omega, fun e he => ?_⟩⟩⟩
        · by_cases z : e = n1
          · subst z
            subst k1
            rw [c3, f3, w]
          · rw [← c5 e (by omega), ← f5 e (by omega)]
            exact k2 e (by omega)
        · rw [c5 e he, f5 e (by omega)]
          exact k2 e (by omega)
      · have hb : g_X7_hasStackLike_l16 F o1 o2 u (u.2.1 (o1 + 33) t1) (u.2.1 (o2 + 33) t2) (nI i) = some (.inr (Sum.inl ())) := by
          unfold g_X7_hasStackLike_l16
          rw [c2, f2, if_neg h8, if_neg (nI_m1 (by omega)), if_neg (nI_m1 (by omega)), x7_counter h1.1 hT1 (by omega), ob_i, x7_counter h2.1 hT2 (by omega), ob_i, if_neg w]
        refine ⟨_, 0, lp_r hb, rfl, ⟨fun w => absurd rfl w, fun ⟨k1, k2⟩ => ?_⟩⟩
        have k3 : n1 = n2 := by omega
        subst k3
        have := k2 n1 (by omega)
        rw [c3, f3] at this
        exact absurd (by first | exact (Int32.add_left_inj _).mp this | exact (by have h := congrArg (fun z => z - 1) this; simpa [Int32.add_sub_cancel] using h)) w
theorem c_stack {t : Nat} (h1 : RunS u o1 T1 N1 A l1) (h2 : RunS u o2 T2 N2 B l2) (ht1 : t ≤ T1) (ht2 : t ≤ T2) (hF : 10000 < F) : ∃ x, g_X7_hasStackLike F o1 (nI t) o2 u = some x ∧ (¬ x = 0 ↔ (A t 121 = B t 121 ∧ ∀ e, e < tn (B t 121) → A t (122 + e) = B t (122 + e))) := by
  obtain ⟨da, a1, a2, -, -⟩ := (h1.2.2.1 t ht1).2.2.2
  obtain ⟨db, b1, b2, -, -⟩ := (h2.2.2.1 t ht2).2.2.2
  obtain ⟨y, x, g1, g2, g3⟩ := c_stl (F := F) h1 h2 da 0 t t db ht1 ht2 a2 b2 (by omega) (by omega) F (by omega)
  rw [show nI 0 = (0 : Int32) from rfl] at g1
  refine ⟨x, ?_, g3.trans ?_⟩
  · unfold g_X7_hasStackLike
    rw [x7_top h1.1 h1.2.1 ht1, ob_i, x7_top h2.1 h2.2.1 ht2, ob_i, g1, ob_i]
    exact g2
  · rw [a2, b2, tnn (by omega)]
    constructor
    · rintro ⟨rfl, k⟩; exact ⟨rfl, k⟩
    · rintro ⟨k1, k2⟩
      have := nI_inj (by omega) (by omega) k1
      subst this
      exact ⟨rfl, k2⟩
/-- the puts by k are gone through -/
theorem c_gol {a k : Nat} (hP : PI uc q T N) (hq : 116 ≤ q) (ha : a = 113 ∨ a = 114) (hk : k ≤ 3000) : ∀ (f c : Nat) (u : rg_U), c + f = cP (uc.2.1 (q + 1)) k N → lyX uc u → (∀ p, p < 40 → u.2.1 a p = lat (uc.2.1 (q + 2)) p c) → ∀ G, f < G → ∃ w, lp (fun (s : Int32 × rg_U) => g_X0_goThrough_l3 F q a 40 (nI k) s.1 s.2) G (nI c, u) = some (nI (c + f), w) ∧ lyX uc w ∧ (∀ j, j ≠ a → w.2.1 j = u.2.1 j) ∧ ∀ p, p < 40 → w.2.1 a p = lat (uc.2.1 (q + 2)) p (c + f)
  | f, c, u, hc, hu, hl, 0, hG => by omega
  | 0, c, u, hc, hu, hl, G + 1, hG => by
    obtain ⟨hN, h8, hT, hm, -, hx⟩ := id hP
    have hle := cP_le (pt := uc.2.1 (q + 1)) (t := k) N
    have e11 : rF u q 11 = nI N := (hu.2.2 _ (by omega)).trans hN
    have hb : g_X0_goThrough_l3 F q a 40 (nI k) (nI c) u = some (.inr (nI c, u)) := by
      unfold g_X0_goThrough_l3
      by_cases w : c < N
      · obtain ⟨τ, p', d1, d2, d3, d4, -⟩ := hx c w
        have := cP_iff (t := k) N hm c w
        rw [d3, tnn (by omega)] at this
        rw [e11, if_neg (nI_ge w (by omega)), x6_time e11 h8 (Or.inr ⟨c, w, rfl⟩), ob_i, vS_n (by omega), hu.2.1 _ (by omega), d3, if_pos (nI_lt (by omega) (by omega))]
      · rw [e11, if_pos (nI_le (by omega) (by omega))]
    exact ⟨u, lp_r hb, hu, fun _ _ => rfl, hl⟩
  | f + 1, c, u, hc, hu, hl, G + 1, hG => by
    obtain ⟨hN, h8, hT, hm, -, hx⟩ := id hP
    have hle := cP_le (pt := uc.2.1 (q + 1)) (t := k) N
    have w : c < N := by omega
    have e11 : rF u q 11 = nI N := (hu.2.2 _ (by omega)).trans hN
    obtain ⟨τ, p', d1, d2, d3, d4, -⟩ := hx c w
    have hi := cP_iff (t := k) N hm c w
    rw [d3, tnn (by omega)] at hi
    have hb : g_X0_goThrough_l3 F q a 40 (nI k) (nI c) u = some (.inl (nI (c + 1), rg_R u a p' (nI c))) := by
      unfold g_X0_goThrough_l3 g_X0_goThrough_j48
      rw [e11, if_neg (nI_ge w (by omega)), x6_time e11 h8 (Or.inr ⟨c, w, rfl⟩), ob_i, vS_n (by omega), hu.2.1 (q + 1) (by omega), d3, if_neg (nI_nlt (by omega) (by omega)), x6_place e11 h8 (Or.inr ⟨c, w, rfl⟩), ob_i, vS_n (by omega), hu.2.1 (q + 2) (by omega), d4, if_neg (nI_pos (by omega)), if_neg (show ¬ Int32.ofNat 40 ≤ nI p' from nI_ge (a := p') (b := 40) (by omega) (by decide)), ck_t (inb_nI (by omega) (by decide)), lt1_i, sA_nI (by omega), nI_1]
    obtain ⟨w', g1, g2, g3, g4⟩ := c_gol hP hq ha hk f (c + 1) (rg_R u a p' (nI c)) (by omega) (ly_R hu (by omega)) (fun p hp => by
      rw [R_at]
      by_cases z : p = p'
      · rw [if_pos ⟨rfl, z⟩, z, lat_y d4]
      · rw [if_neg (fun y => z y.2), lat_n (fun y => z (nI_inj (by omega) (by omega) (d4.symm.trans y)).symm), hl p hp]) G (by omega)
    rw [show c + 1 + f = c + (f + 1) by omega] at g1 g4
    exact ⟨w', (lp_l (body := fun (s : Int32 × rg_U) => g_X0_goThrough_l3 F q a 40 (nI k) s.1 s.2) (s := (nI c, u)) hb).trans g1, g2, fun j hj => (g3 j hj).trans (R_n hj), g4⟩
theorem c_go {a k c : Nat} (hP : PI uc q T N) (hq : 116 ≤ q) (ha : a = 113 ∨ a = 114) (hk : k ≤ 3000) (hu : lyX uc u) (hc : c ≤ cP (uc.2.1 (q + 1)) k N) (hl : ∀ p, p < 40 → u.2.1 a p = lat (uc.2.1 (q + 2)) p c) (hF : 10000 < F) : ∃ w, g_X0_goThrough F q (nI c) (nI k) a 40 u = some (nI (cP (uc.2.1 (q + 1)) k N), w) ∧ lyX uc w ∧ (∀ j, j ≠ a → w.2.1 j = u.2.1 j) ∧ ∀ p, p < 40 → w.2.1 a p = lat (uc.2.1 (q + 2)) p (cP (uc.2.1 (q + 1)) k N) := by
  have h8 := hP.2.1
  have hle := cP_le (pt := uc.2.1 (q + 1)) (t := k) N
  obtain ⟨w, g1, g2, g3, g4⟩ := c_gol (F := F) hP hq ha hk (cP (uc.2.1 (q + 1)) k N - c) c u (by omega) hu hl F (by omega)
  rw [show c + (cP (uc.2.1 (q + 1)) k N - c) = cP (uc.2.1 (q + 1)) k N by omega] at g1 g4
  refine ⟨w, ?_, g2, g3, g4⟩
  unfold g_X0_goThrough
  rw [g1, ob_i]
/-- both rows hold the same at place p -/
def eqV (a b : Row) (p : Nat) : Prop := a p = b p ∧ a (40 + p) = b (40 + p)
theorem c_arel {a b : Row} {q1 q2 d : Nat} (hP : PI u q T N) (hd : d ≤ N) (hv : ∀ p, p < 40 → ∀ s n, g_X6_hasValue F q1 (u.2.1 113 p) s n u = some (if a p = s ∧ a (40 + p) = n then 1 else 0)) (hs : ∀ p, p < 40 → g_X6_sortOf F q2 (u.2.1 114 p) u = some (b p)) (hn : ∀ p, p < 40 → g_X6_numberOf F q2 (u.2.1 114 p) u = some (b (40 + p))) : ∀ (f c : Nat), c + f = d → ∀ G, f < G → ∃ y x, lp (fun (s : Int32) => g_X0_areUnlike_l3 F q q1 q2 (nI d) u s) G (nI c) = some y ∧ os y (fun _ => some (1 : Int32)) (fun _ => some 0) = some x ∧ (x = 0 ↔ ∀ i, c ≤ i → i < d → ∀ p, p < 40 → u.2.1 (q + 2) i = nI p → eqV a b p)
  | f, c, hc, 0, hG => by omega
  | 0, c, hc, G + 1, hG => by
    have h8 := hP.2.1
    have hb : g_X0_areUnlike_l3 F q q1 q2 (nI d) u (nI c) = some (.inr (Sum.inr ())) := by
      unfold g_X0_areUnlike_l3
      rw [if_pos (nI_le (by omega) (by omega))]
    exact ⟨_, 0, lp_r hb, rfl, ⟨fun _ i h1 h2 => by omega, fun _ => rfl⟩⟩
  | f + 1, c, hc, G + 1, hG => by
    obtain ⟨hN, h8, hT, hm, -, hx⟩ := id hP
    obtain ⟨τ, p', d1, d2, d3, d4, -⟩ := hx c (by omega)
    have hb : g_X0_areUnlike_l3 F q q1 q2 (nI d) u (nI c) = if a p' = b p' ∧ a (40 + p') = b (40 + p') then some (.inl (nI (c + 1))) else some (.inr (Sum.inl ())) := by
      unfold g_X0_areUnlike_l3 g_X0_areUnlike_j65
      rw [if_neg (nI_ge (by omega) (by omega)), x6_place hN h8 (Or.inr ⟨c, by omega, rfl⟩), ob_i, vS_n (by omega), d4, if_neg (by rw [cl_place]; exact in_nI (a := 0) (b := 39) (by omega) (by omega) (by decide)), ck_t (inb_nI (by omega) (by decide)), ck_t (inb_nI (by omega) (by decide)), rA_nI (by omega), rA_nI (by omega), hs p' d2, ob_i, hn p' d2, ob_i, hv p' d2, ob_i, nI_1]
      by_cases w : a p' = b p' ∧ a (40 + p') = b (40 + p')
      · rw [if_pos w, if_neg one_n0, if_pos w]
      · rw [if_neg w, if_pos rfl, if_neg w]
    by_cases w : a p' = b p' ∧ a (40 + p') = b (40 + p')
    · rw [if_pos w] at hb
      obtain ⟨y, x, g1, g2, g3⟩ := c_arel hP hd hv hs hn f (c + 1) (by omega) G (by omega)
      refine ⟨y, x, (lp_l (body := fun (s : Int32) => g_X0_areUnlike_l3 F q q1 q2 (nI d) u s) (s := nI c) hb).trans g1, g2, g3.trans ⟨fun h i i1 i2 p hp e => ?_, fun h i i1 i2 p hp e => h i (by omega) i2 p hp e⟩⟩
      by_cases z : i = c
      · subst z
        have := nI_inj (by omega) (by omega) (d4.symm.trans e)
        subst this
        exact w
      · exact h i (by omega) i2 p hp e
    · rw [if_neg w] at hb
      exact ⟨_, 1, lp_r hb, rfl, ⟨fun h => absurd h (by decide), fun h => absurd (h c (Nat.le_refl _) (by omega) p' d2 d4) w⟩⟩
theorem c_are {a b : Row} {q1 q2 c d : Nat} (hP : PI u q T N) (hd : d ≤ N) (hc : c ≤ d) (hv : ∀ p, p < 40 → ∀ s n, g_X6_hasValue F q1 (u.2.1 113 p) s n u = some (if a p = s ∧ a (40 + p) = n then 1 else 0)) (hs : ∀ p, p < 40 → g_X6_sortOf F q2 (u.2.1 114 p) u = some (b p)) (hn : ∀ p, p < 40 → g_X6_numberOf F q2 (u.2.1 114 p) u = some (b (40 + p))) (hF : 10000 < F) : ∃ x, g_X0_areUnlike F q (nI c) (nI d) q1 q2 u = some x ∧ (x = 0 ↔ ∀ i, c ≤ i → i < d → ∀ p, p < 40 → u.2.1 (q + 2) i = nI p → eqV a b p) := by
  have h8 := hP.2.1
  obtain ⟨y, x, g1, g2, g3⟩ := c_arel (F := F) (q1 := q1) (q2 := q2) hP hd hv hs hn (d - c) c (by omega) F (by omega)
  refine ⟨x, ?_, g3⟩
  unfold g_X0_areUnlike
  rw [g1, ob_i]
  exact g2
/-- how many puts came ahead of k -/
def pc (pt : Nat → Int32) (N k : Nat) : Nat := if k = 0 then 0 else cP pt (k - 1) N
theorem pc_le {pt : Nat → Int32} {N k : Nat} : pc pt N k ≤ cP pt k N := by
  unfold pc
  split
  · exact Nat.zero_le _
  · exact cP_mono (by omega) N
theorem pc_s {pt : Nat → Int32} {N k : Nat} : pc pt N (k + 1) = cP pt k N := if_neg (by omega)
/-- a place that no put came to between c and d -/
theorem lat_same {pp : Nat → Int32} {p c d : Nat} (h : c ≤ d) (hn : ¬ ∃ i, c ≤ i ∧ i < d ∧ pp i = nI p) : lat pp p d = lat pp p c := lat_skip d h (fun i i1 i2 e => hn ⟨i, i1, i2, e⟩)
theorem c_ful {M : Nat} (h1 : RunS uc o1 T1 N1 A l1) (h2 : RunS uc o2 T2 N2 B l2) (ho1 : 116 ≤ o1) (ho2 : 116 ≤ o2) (hM1 : M ≤ T1) (hM2 : M ≤ T2) (hF : 10000 < F) : ∀ (f k : Nat) (u : rg_U), k + f = M + 1 → lyX uc u → (∀ p, p < 40 → u.2.1 113 p = lat (uc.2.1 (o1 + 12 + 2)) p (pc (uc.2.1 (o1 + 12 + 1)) N1 k)) → (∀ p, p < 40 → u.2.1 114 p = lat (uc.2.1 (o2 + 12 + 2)) p (pc (uc.2.1 (o2 + 12 + 1)) N2 k)) → (∀ j, j < k → sLk (B j) (A j)) → ∀ G, f < G → ∃ y x w, lp (fun (s : Int32 × Int32 × Int32 × rg_U) => g_X0_firstUnlike_l37 F o1 o2 (nI M) s.1 s.2.1 s.2.2.1 s.2.2.2) G (nI (pc (uc.2.1 (o1 + 12 + 1)) N1 k), nI (pc (uc.2.1 (o2 + 12 + 1)) N2 k), nI k, u) = some y ∧ os y (fun r => some (r.1, r.2)) (fun r => some ((-1 : Int32), r)) = some (x, w) ∧ ((x = -1 ∧ ∀ j, j ≤ M → sLk (B j) (A j)) ∨ ∃ j, j ≤ M ∧ x = nI j ∧ ¬ sLk (B j) (A j) ∧ ∀ i, i < j → sLk (B i) (A i)) ∧ lyX uc w
  | f, k, u, hf, hu, ha, hb, hl, 0, hG => by omega
  | 0, k, u, hf, hu, ha, hb, hl, G + 1, hG => by
    have hT1 := h1.2.1
    have hbd : g_X0_firstUnlike_l37 F o1 o2 (nI M) (nI (pc (uc.2.1 (o1 + 12 + 1)) N1 k)) (nI (pc (uc.2.1 (o2 + 12 + 1)) N2 k)) (nI k) u = some (.inr (Sum.inr u)) := by
      unfold g_X0_firstUnlike_l37
      rw [if_pos (nI_lt (by omega) (by omega))]
    exact ⟨_, -1, u, lp_r hbd, rfl, Or.inl ⟨rfl, fun j hj => hl j (by omega)⟩, hu⟩
  | f + 1, k, u, hf, hu, ha, hb, hl, G + 1, hG => by
    have hT1 := h1.2.1
    have hT2 := h2.2.1
    have hP1 := h1.2.2.2.1
    have hP2 := h2.2.2.2.1
    obtain ⟨w1, g1, g2, g3, g4⟩ := c_go (F := F) (k := k) hP1 (show 116 ≤ o1 + 12 by omega) (Or.inl rfl) (by omega) hu (pc_le (N := N1) (k := k)) ha hF
    obtain ⟨w2, g5, g6, g7, g8⟩ := c_go (F := F) (k := k) hP2 (show 116 ≤ o2 + 12 by omega) (Or.inr rfl) (by omega) g2 (pc_le (N := N2) (k := k)) (fun p hp => by rw [g3 114 (by omega)]; exact hb p hp) hF
    have g4' : ∀ p, p < 40 → w2.2.1 113 p = lat (uc.2.1 (o1 + 12 + 2)) p (cP (uc.2.1 (o1 + 12 + 1)) k N1) := fun p hp => by rw [g7 113 (by omega)]; exact g4 p hp
    have R1 := RunS_ly h1 g6 ho1
    have R2 := RunS_ly h2 g6 ho2
    have P1 := R1.2.2.2.1
    have P2 := R2.2.2.2.1
    have k1 : k ≤ T1 := by omega
    have k2 : k ≤ T2 := by omega
    have rowA : ∀ t, t ≤ T1 → PRow uc (o1 + 12) (cP (uc.2.1 (o1 + 12 + 1)) t N1) (A t) := fun t ht => (h1.2.2.2.2 t ht).1
    have rowB : ∀ t, t ≤ T2 → PRow uc (o2 + 12) (cP (uc.2.1 (o2 + 12 + 1)) t N2) (B t) := fun t ht => (h2.2.2.2.2 t ht).1
    have aw : ∀ j, 115 ≤ j → w2.2.1 j = uc.2.1 j := fun j hj => g6.2.1 j (Or.inr hj)
    have hv : ∀ p, p < 40 → ∀ s n, g_X6_hasValue F (o1 + 12) (w2.2.1 113 p) s n w2 = some (if A k p = s ∧ A k (40 + p) = n then 1 else 0) := fun p hp s n => by
      rw [g4' p hp, x6_value P1.1 P1.2.1 (lat_ok (cP_le N1)), aw _ (by omega), aw _ (by omega), (rowA k k1 p hp).1, (rowA k k1 p hp).2.1]
    have hs : ∀ p, p < 40 → g_X6_sortOf F (o2 + 12) (w2.2.1 114 p) w2 = some (B k p) := fun p hp => by
      rw [g8 p hp, x6_sort P2.1 P2.2.1 (lat_ok (cP_le N2)), aw _ (by omega), (rowB k k2 p hp).1]
    have hn : ∀ p, p < 40 → g_X6_numberOf F (o2 + 12) (w2.2.1 114 p) w2 = some (B k (40 + p)) := fun p hp => by
      rw [g8 p hp, x6_number P2.1 P2.2.1 (lat_ok (cP_le N2)), aw _ (by omega), (rowB k k2 p hp).2.1]
    obtain ⟨xs, s1, s2⟩ := c_stack (F := F) (t := k) R1 R2 k1 k2 hF
    obtain ⟨x1, u1, u2⟩ := c_are (F := F) P1 (cP_le N1) (pc_le (pt := uc.2.1 (o1 + 12 + 1)) (N := N1) (k := k)) hv hs hn hF
    obtain ⟨x2, u3, u4⟩ := c_are (F := F) P2 (cP_le N2) (pc_le (pt := uc.2.1 (o2 + 12 + 1)) (N := N2) (k := k)) hv hs hn hF
    rw [aw _ (by omega)] at u2 u4
    have cA : g_X7_counterAt F o1 (nI k) w2 = some (A k 120) := by rw [x7_counter R1.1 hT1 k1, (R1.2.2.1 k k1).1]
    have cB : g_X7_counterAt F o2 (nI k) w2 = some (B k 120) := by rw [x7_counter R2.1 hT2 k2, (R2.2.2.1 k k2).1]
    have hbd : g_X0_firstUnlike_l37 F o1 o2 (nI M) (nI (pc (uc.2.1 (o1 + 12 + 1)) N1 k)) (nI (pc (uc.2.1 (o2 + 12 + 1)) N2 k)) (nI k) u = if A k 120 = B k 120 then (if xs = 0 then some (.inr (Sum.inl (nI k, w2))) else if x1 = 0 then (if x2 = 0 then some (.inl (nI (cP (uc.2.1 (o1 + 12 + 1)) k N1), nI (cP (uc.2.1 (o2 + 12 + 1)) k N2), nI (k + 1), w2)) else some (.inr (Sum.inl (nI k, w2)))) else some (.inr (Sum.inl (nI k, w2)))) else some (.inr (Sum.inl (nI k, w2))) := by
      unfold g_X0_firstUnlike_l37
      rw [if_neg (nI_nlt (by omega) (by omega)), g1, ob_i, g5, ob_i, cA, ob_i, cB, ob_i, s1, ob_i, u1, ob_i, u3, ob_i, nI_1]
    have stop : g_X0_firstUnlike_l37 F o1 o2 (nI M) (nI (pc (uc.2.1 (o1 + 12 + 1)) N1 k)) (nI (pc (uc.2.1 (o2 + 12 + 1)) N2 k)) (nI k) u = some (.inr (Sum.inl (nI k, w2))) → ¬ sLk (B k) (A k) → ∃ y x w, lp (fun (s : Int32 × Int32 × Int32 × rg_U) => g_X0_firstUnlike_l37 F o1 o2 (nI M) s.1 s.2.1 s.2.2.1 s.2.2.2) (G + 1) (nI (pc (uc.2.1 (o1 + 12 + 1)) N1 k), nI (pc (uc.2.1 (o2 + 12 + 1)) N2 k), nI k, u) = some y ∧ os y (fun r => some (r.1, r.2)) (fun r => some ((-1 : Int32), r)) = some (x, w) ∧ ((x = -1 ∧ ∀ j, j ≤ M → sLk (B j) (A j)) ∨ ∃ j, j ≤ M ∧ x = nI j ∧ ¬ sLk (B j) (A j) ∧ ∀ i, i < j → sLk (B i) (A i)) ∧ lyX uc w := fun e hns => ⟨_, nI k, w2, lp_r e, rfl, Or.inr ⟨k, by omega, rfl, hns, hl⟩, g6⟩
    by_cases z1 : A k 120 = B k 120
    · rw [if_pos z1] at hbd
      by_cases z2 : xs = 0
      · rw [if_pos z2] at hbd
        exact stop hbd (fun w => s2.mpr ⟨w.2.2.1, w.2.2.2⟩ z2)
      · rw [if_neg z2] at hbd
        have hst := s2.mp z2
        have all : sLk (B k) (A k) → ∀ p, p < 40 → eqV (A k) (B k) p := fun w p hp => ⟨w.1 p (by omega), w.1 (40 + p) (by omega)⟩
        by_cases z3 : x1 = 0
        · rw [if_pos z3] at hbd
          by_cases z4 : x2 = 0
          · rw [if_pos z4] at hbd
            have q1 := u2.mp z3
            have q2 := u4.mp z4
            have hev : ∀ p, p < 40 → eqV (A k) (B k) p := fun p hp => by
              by_cases y1 : ∃ i, pc (uc.2.1 (o1 + 12 + 1)) N1 k ≤ i ∧ i < cP (uc.2.1 (o1 + 12 + 1)) k N1 ∧ uc.2.1 (o1 + 12 + 2) i = nI p
              · obtain ⟨i, i1, i2, i3⟩ := y1
                exact q1 i i1 i2 p hp i3
              · by_cases y2 : ∃ i, pc (uc.2.1 (o2 + 12 + 1)) N2 k ≤ i ∧ i < cP (uc.2.1 (o2 + 12 + 1)) k N2 ∧ uc.2.1 (o2 + 12 + 2) i = nI p
                · obtain ⟨i, i1, i2, i3⟩ := y2
                  exact q2 i i1 i2 p hp i3
                · have L1 := lat_same pc_le y1
                  have L2 := lat_same pc_le y2
                  obtain ⟨a1, a2, -⟩ := rowA k k1 p hp
                  obtain ⟨b1, b2, -⟩ := rowB k k2 p hp
                  rw [L1] at a1 a2
                  rw [L2] at b1 b2
                  unfold eqV
                  rw [a1, a2, b1, b2]
                  by_cases y3 : k = 0
                  · unfold pc
                    rw [if_pos y3, if_pos y3]
                    exact ⟨rfl, rfl⟩
                  · unfold pc
                    rw [if_neg y3, if_neg y3]
                    obtain ⟨c1, c2, -⟩ := rowA (k - 1) (by omega) p hp
                    obtain ⟨d1, d2, -⟩ := rowB (k - 1) (by omega) p hp
                    rw [← c1, ← c2, ← d1, ← d2]
                    have hj := hl (k - 1) (by omega)
                    exact ⟨hj.1 p (by omega), hj.1 (40 + p) (by omega)⟩
            have hk : sLk (B k) (A k) := ⟨fun i hi => by
              rcases Nat.lt_or_ge i 40 with y | y
              · exact (hev i y).1
              · have := (hev (i - 40) (by omega)).2
                rwa [show 40 + (i - 40) = i by omega] at this, z1, hst.1, hst.2⟩
            rw [← pc_s (k := k) (N := N1), ← pc_s (k := k) (N := N2)] at hbd
            obtain ⟨y, x, w, r1, r2, r3, r4⟩ := c_ful h1 h2 ho1 ho2 hM1 hM2 hF f (k + 1) w2 (by omega) g6 (fun p hp => by rw [pc_s]; exact g4' p hp) (fun p hp => by rw [pc_s]; exact g8 p hp) (fun j hj => by
              by_cases y : j = k
              · rw [y]; exact hk
              · exact hl j (by omega)) G (by omega)
            exact ⟨y, x, w, (lp_l (body := fun (s : Int32 × Int32 × Int32 × rg_U) => g_X0_firstUnlike_l37 F o1 o2 (nI M) s.1 s.2.1 s.2.2.1 s.2.2.2) (s := (nI (pc (uc.2.1 (o1 + 12 + 1)) N1 k), nI (pc (uc.2.1 (o2 + 12 + 1)) N2 k), nI k, u)) hbd).trans r1, r2, r3, r4⟩
          · rw [if_neg z4] at hbd
            exact stop hbd (fun w => z4 (u4.mpr (fun i _ _ p hp _ => all w p hp)))
        · rw [if_neg z3] at hbd
          exact stop hbd (fun w => z3 (u2.mpr (fun i _ _ p hp _ => all w p hp)))
    · rw [if_neg z1] at hbd
      exact stop hbd (fun w => z1 w.2.1)
theorem sFill_n {a N j : Nat} {v : Int32} (h : j ≠ a) : (sFill u a N v).2.1 j = u.2.1 j := pm_up_n h
theorem sFill_y {a N i : Nat} {v : Int32} (h : i < N) : (sFill u a N v).2.1 a i = v := by
  show va_up u.2.1 a (fun i => if i < N then v else u.2.1 a i) a i = v
  unfold va_up
  rw [if_pos rfl]
  exact if_pos h
theorem c_firstUnlike (h1 : RunS uc o1 T1 N1 A l1) (h2 : RunS uc o2 T2 N2 B l2) (ho1 : 116 ≤ o1) (ho2 : 116 ≤ o2) (hF : 10000 < F) : ∃ x w, g_X0_firstUnlike F o1 o2 uc = some (x, w) ∧ ((x = -1 ∧ ∀ j, j ≤ min T1 T2 → sLk (B j) (A j)) ∨ ∃ j, j ≤ min T1 T2 ∧ x = nI j ∧ ¬ sLk (B j) (A j) ∧ ∀ i, i < j → sLk (B i) (A i)) ∧ lyX uc w := by
  have hT1 := h1.2.1
  have hT2 := h2.2.1
  have hu : lyX uc (sFill (sFill uc 113 40 (-1)) 114 40 (-1)) := ⟨rfl, fun j hj => by rw [sFill_n (by omega), sFill_n (by omega)], fun _ _ => rfl⟩
  obtain ⟨y, x, w, r1, r2, r3, r4⟩ := c_ful (F := F) (M := min T1 T2) h1 h2 ho1 ho2 (by omega) (by omega) hF (min T1 T2 + 1) 0 (sFill (sFill uc 113 40 (-1)) 114 40 (-1)) (by omega) hu (fun p hp => by rw [sFill_n (by omega), sFill_y hp]; rfl) (fun p hp => by rw [sFill_y hp]; rfl) (fun j hj => by omega) F (by omega)
  refine ⟨x, w, ?_, r3, r4⟩
  have e1 : rF (sFill (sFill uc 113 40 (-1)) 114 40 (-1)) o1 9 = nI T1 := h1.1
  have e2 : rF (sFill (sFill uc 113 40 (-1)) 114 40 (-1)) o2 9 = nI T2 := h2.1
  have im : imin (nI T1) (nI T2) = nI (min T1 T2) := by
    unfold imin
    by_cases q : T2 < T1
    · rw [if_pos (nI_lt q (by omega)), Nat.min_eq_right (by omega)]
    · rw [if_neg (nI_nlt (by omega) (by omega)), Nat.min_eq_left (by omega)]
  have r1' : lp (fun (s : Int32 × Int32 × Int32 × rg_U) => g_X0_firstUnlike_l37 F o1 o2 (nI (min T1 T2)) s.1 s.2.1 s.2.2.1 s.2.2.2) F ((0 : Int32), (0 : Int32), (0 : Int32), sFill (sFill uc 113 40 (-1)) 114 40 (-1)) = some y := r1
  unfold g_X0_firstUnlike
  rw [g_fill_eq (by decide) (by omega), ob_i, g_fill_eq (by decide) (by omega), ob_i, e1, e2, im, r1', ob_i]
  exact r2
theorem sr_parts (hF : 10000 < F) : SB pB (g_X9_parts F x y) (g_X10_parts F x y) := fun uc um h => by
  obtain ⟨K, W, r1, r2, -⟩ := id h
  have hK := r1.1.1.2.1
  unfold g_X9_parts
  have bad : ¬ ((∃ r, act um K r ∧ x = xr r) ∧ ∃ r, act um K r ∧ y = xr r) → ∃ zm, g_X10_parts F x y um = some zm ∧ (-2 : Int32) = zm.1 ∧ RelC pB uc zm.2 := fun hb => by
    rcases m_parts (F := F) (x := x) (y := y) r1 hF with ⟨-, q⟩ | ⟨a, b, c, w, a1, a2, a3, a4, -⟩
    · exact ⟨_, q, rfl, h⟩
    · exact absurd ⟨⟨a, a1, a2⟩, b, a3, a4⟩ hb
  rcases Rel_at (F := F) (x := x) h r1 with ⟨n1, e1⟩ | ⟨p, p1, p2, p3, e1, p4, p5⟩
  · obtain ⟨zm, b1, b2, b3⟩ := bad (fun w => n1 w.1)
    refine ⟨(-2, uc), zm, ?_, b1, b2, b3⟩
    rw [e1, ob_i, om_0]
    rcases Rel_at (F := F) (x := y) h r1 with ⟨n2, e2⟩ | ⟨q, q1, q2, q3, e2, q4, q5⟩
    · rw [e2, ob_i, om_0]
    · rw [e2, ob_i, om_i, ck_t (oR_rn q3)]
  · rcases Rel_at (F := F) (x := y) h r1 with ⟨n2, e2⟩ | ⟨q, q1, q2, q3, e2, q4, q5⟩
    · obtain ⟨zm, b1, b2, b3⟩ := bad (fun w => n2 w.2)
      refine ⟨(-2, uc), zm, ?_, b1, b2, b3⟩
      rw [e1, ob_i, om_i, ck_t (oR_rn p3), e2, ob_i, om_0]
    · rcases m_parts (F := F) (x := x) (y := y) r1 hF with ⟨w, -⟩ | ⟨a, b, c, w, a1, a2, a3, a4, g, pt, ce, ok⟩
      · exact absurd ⟨⟨p, p1, p2⟩, q, q1, q2⟩ w
      · have ea : a = p := xr_inj (act5 hK a1) p3 (a2.symm.trans p2)
        have eb : b = q := xr_inj (act5 hK a3) q3 (a4.symm.trans q2)
        subst ea eb
        obtain ⟨N1, h1⟩ := p4.2.2.2.2.2.2
        obtain ⟨N2, h2⟩ := q4.2.2.2.2.2.2
        have hT := Tr3 r1.1 p1
        obtain ⟨x', v, k1, k2, k3⟩ := c_firstUnlike (F := F) h1 h2 oR_ge oR_ge hF
        have ex : x' = c := by
          rcases k2 with ⟨z1, z2⟩ | ⟨j, z1, z2, z3, z4⟩
          · rcases pt with ⟨y1, y2⟩ | ⟨i, y1, y2, y3, y4⟩
            · rw [z1, y1]
            · exact absurd (z2 i y1) y3
          · rcases pt with ⟨y1, y2⟩ | ⟨i, y1, y2, y3, y4⟩
            · exact absurd (y2 j z1) z3
            · have : j = i := by
                rcases Nat.lt_trichotomy j i with l | l | l
                · exact absurd (y4 j l) z3
                · exact l
                · exact absurd (z4 i l) y3
              rw [z2, y2, this]
        refine ⟨(x', v), _, ?_, g, ex, Rel_e (Rel_ly h k3) r1 ce ok⟩
        rw [e1, ob_i, om_i, ck_t (oR_rn p3), e2, ob_i, om_i, ck_t (oR_rn q3), k1, ob_i]
end YN
end W_90
