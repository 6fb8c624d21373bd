section W_94
-- 97zzyc.rests
/-! the class and the reference: rests, hangs -/
theorem rsF_skip {B : Nat → Int32} {z : Int32} {t c : Nat} : ∀ d k, k + d ≤ t → (∀ i, k ≤ i → i < k + d → B i = 0) → rsF B z (t - k) c k = rsF B z (t - (k + d)) c (k + d)
  | 0, k, _, _ => rfl
  | d + 1, k, h1, h2 => by
    rw [show t - k = (t - (k + 1)) + 1 by omega]
    show (if B k = 0 then rsF B z (t - (k + 1)) c (k + 1) else _) = _
    rw [if_pos (h2 k (Nat.le_refl k) (by omega)), rsF_skip d (k + 1) (by omega) (fun i a b => h2 i (by omega) (by omega)), show k + 1 + d = k + (d + 1) by omega]
theorem rsF_hit {B : Nat → Int32} {z : Int32} {t c k : Nat} (h : k < t) (hB : ¬ B k = 0) : rsF B z (t - k) c k = if nI c = z then .inl k else rsF B z (t - (k + 1)) (c + 1) (k + 1) := by
  rw [show t - k = (t - (k + 1)) + 1 by omega]
  show (if B k = 0 then _ else _) = _
  rw [if_neg hB]
section ZD
variable {pB : Prop} {F q N o r t p T : Nat} {u uc um : rg_U} {x y z : Int32} {B : Nat → Int32}
theorem c_markedStep (hN : rF u q 11 = nI N) (h8 : N ≤ 3800) (ht : t ≤ 3000) (h1 : ∀ n, n < N → ¬ u.2.1 115 n = 0 → u.2.1 (q + 7) n = -1 ∨ ∃ k, k < t ∧ u.2.1 (q + 7) n = nI k ∧ ¬ B k = 0) (h2 : ∀ i j k k', i < j → j < N → k < 3000 → k' < 3000 → u.2.1 (q + 7) i = nI k → u.2.1 (q + 7) j = nI k' → k < k') (h3 : ∀ k, k < t → ¬ B k = 0 → ∃ n, n < N ∧ ¬ u.2.1 115 n = 0 ∧ u.2.1 (q + 7) n = nI k) (hF : 10000 < F) : g_X6_markedStep F q z 115 3800 u = some (match rsF B z t 0 0 with | .inl j => nI j | .inr c => if z = -1 then nI c else -1) := by
  unfold g_X6_markedStep
  have key : Tt (lp (fun (s : (Int32 × Int32)) => g_X6_markedStep_l5 F q 115 3800 z u s.1 s.2) F ((0 : Int32), (0 : Int32))) (fun r => (∃ n j, n < N ∧ r = Sum.inl (nI n) ∧ u.2.1 (q + 7) n = nI j ∧ rsF B z t 0 0 = .inl j) ∨ ∃ c, r = Sum.inr (nI c) ∧ rsF B z t 0 0 = .inr c) := by
    refine tt_lp (I := fun s => ∃ c n k, s.1 = nI c ∧ s.2 = nI n ∧ n ≤ N ∧ k ≤ t ∧ rsF B z t 0 0 = rsF B z (t - k) c k ∧ (∀ n' k', n ≤ n' → n' < N → ¬ u.2.1 115 n' = 0 → k' < t → u.2.1 (q + 7) n' = nI k' → k ≤ k') ∧ ∀ k', k ≤ k' → k' < t → ¬ B k' = 0 → ∃ n', n ≤ n' ∧ n' < N ∧ ¬ u.2.1 115 n' = 0 ∧ u.2.1 (q + 7) n' = nI k') (m := fun s => ((N : Int) - s.2.toInt).toNat) ?_ F _ ?_ ?_
    · rintro ⟨a, b⟩ ⟨c, n, k, e1, e2, g1, g2, g3, g4, g5⟩
      dsimp only at e1 e2 ⊢
      subst e1 e2
      unfold g_X6_markedStep_l5 g_X6_markedStep_j58
      rw [hN]
      by_cases y : n < N
      · have nxt0 : (∀ k', u.2.1 (q + 7) n = nI k' → k' < t → u.2.1 115 n = 0) → Tt (some (Sum.inl (nI c, nI n + 1) : (Int32 × Int32) ⊕ (Int32 ⊕ Int32))) (PS (fun s' : Int32 × Int32 => (∃ c n k, s'.1 = nI c ∧ s'.2 = nI n ∧ n ≤ N ∧ k ≤ t ∧ rsF B z t 0 0 = rsF B z (t - k) c k ∧ (∀ n' k', n ≤ n' → n' < N → ¬ u.2.1 115 n' = 0 → k' < t → u.2.1 (q + 7) n' = nI k' → k ≤ k') ∧ ∀ k', k ≤ k' → k' < t → ¬ B k' = 0 → ∃ n', n ≤ n' ∧ n' < N ∧ ¬ u.2.1 115 n' = 0 ∧ u.2.1 (q + 7) n' = nI k') ∧ ((N : Int) - s'.2.toInt).toNat < ((N : Int) - (nI n).toInt).toNat) (fun r : Int32 ⊕ Int32 => (∃ n j, n < N ∧ r = Sum.inl (nI n) ∧ u.2.1 (q + 7) n = nI j ∧ rsF B z t 0 0 = .inl j) ∨ ∃ c, r = Sum.inr (nI c) ∧ rsF B z t 0 0 = .inr c)) := fun hno => by
          refine tt_l ⟨⟨c, n + 1, k, rfl, by show nI n + 1 = nI (n + 1); rw [nI_1], by omega, g2, g3, fun n' k' a1 a2 a3 a4 a5 => g4 n' k' (by omega) a2 a3 a4 a5, fun k' a1 a2 a3 => ?_⟩, ms_u y (by omega)⟩
          obtain ⟨n', b1, b2, b3, b4⟩ := g5 k' a1 a2 a3
          rcases Nat.lt_or_ge n n' with w | w
          · exact ⟨n', w, b2, b3, b4⟩
          · rw [show n' = n by omega] at b3 b4
            exact absurd (hno k' b4 a2) b3
        rw [if_neg (nI_ge y (by omega)), if_neg (show ¬ (3800 : Int32) ≤ nI n from nI_ge (a := n) (b := 3800) (by omega) (by decide))]
        refine tt_ob (c_isM h8 (Or.inr ⟨n, y, rfl⟩)) (fun r hr => ?_)
        by_cases c1 : r = 0
        · rw [if_pos c1]
          refine nxt0 (fun k' _ _ => Classical.byContradiction fun w => ?_)
          exact (hr.mpr ⟨n, y, rfl, w⟩) c1
        · rw [if_neg c1, ck_t (inb_nI (by omega) (by decide)), rA_nI (by omega)]
          obtain ⟨n0, n1, n2, n3⟩ := hr.mp c1
          have hmk : ¬ u.2.1 115 n = 0 := by rw [nI_inj (by omega) (by omega) n2]; exact n3
          rcases h1 n y hmk with w | ⟨k1, w1, w2, w3⟩
          · rw [if_pos w]
            refine nxt0 (fun k' e _ => ?_)
            rw [w] at e
            exact absurd e.symm (nI_m1 (by omega))
          · rw [w2, if_neg (nI_m1 (by omega))]
            have hk1 : k ≤ k1 := g4 n k1 (Nat.le_refl n) y hmk w1 w2
            have hzero : ∀ i, k ≤ i → i < k + (k1 - k) → B i = 0 := fun i a1 a2 => Classical.byContradiction fun w => by
              obtain ⟨n', b1, b2, b3, b4⟩ := g5 i a1 (by omega) w
              rcases Nat.lt_or_ge n n' with v | v
              · have := h2 n n' k1 i v b2 (by omega) (by omega) w2 b4
                omega
              · rw [show n' = n by omega, w2] at b4
                have := nI_inj (by omega) (by omega) b4
                omega
            have hr1 : rsF B z t 0 0 = if nI c = z then .inl k1 else rsF B z (t - (k1 + 1)) (c + 1) (k1 + 1) := by
              rw [g3, rsF_skip (k1 - k) k (by omega) hzero, show k + (k1 - k) = k1 by omega, rsF_hit w1 w3]
            by_cases c2 : nI c = z
            · rw [if_pos c2]
              rw [if_pos c2] at hr1
              exact tt_r (Or.inl ⟨n, k1, y, rfl, w2, hr1⟩)
            · rw [if_neg c2]
              rw [if_neg c2] at hr1
              refine tt_l ⟨⟨c + 1, n + 1, k1 + 1, by show nI c + 1 = nI (c + 1); rw [nI_1], by show nI n + 1 = nI (n + 1); rw [nI_1], by omega, by omega, hr1, fun n' k' a1 a2 a3 a4 a5 => h2 n n' k1 k' (by omega) a2 (by omega) (by omega) w2 a5, fun k' a1 a2 a3 => ?_⟩, ms_u y (by omega)⟩
              obtain ⟨n', b1, b2, b3, b4⟩ := g5 k' (by omega) a2 a3
              rcases Nat.lt_or_ge n n' with v | v
              · exact ⟨n', v, b2, b3, b4⟩
              · rw [show n' = n by omega, w2] at b4
                have := nI_inj (by omega) (by omega) b4
                omega
      · rw [if_pos (nI_le (by omega) (by omega))]
        refine tt_r (Or.inr ⟨c, rfl, ?_⟩)
        rw [g3, rsF_skip (t - k) k (by omega) (fun i a1 a2 => Classical.byContradiction fun w => by
          obtain ⟨n', b1, b2, -⟩ := g5 i a1 (by omega) w
          omega), show t - (k + (t - k)) = 0 by omega]
        rfl
    · exact ms_0 (by omega)
    · exact ⟨0, 0, 0, rfl, rfl, Nat.zero_le _, Nat.zero_le _, rfl, fun _ _ _ _ _ _ _ => Nat.zero_le _, fun k' _ a2 a3 => by
        obtain ⟨n, b1, b2, b3⟩ := h3 k' a2 a3
        exact ⟨n, Nat.zero_le _, b1, b2, b3⟩⟩
  obtain ⟨rr, e, hr⟩ := key
  rw [e, ob_i]
  rcases hr with ⟨n, j, a1, a2, a3, a4⟩ | ⟨c, a2, a4⟩
  · rw [a2, a4]
    show ck (inb (nI n) 3800) (some (rA u (q + 7) (nI n))) = _
    rw [ck_t (inb_nI (by omega) (by decide)), rA_nI (by omega), a3]
  · rw [a2, a4]
    show g_X6_markedStep_j64 F z (nI c) u = _
    unfold g_X6_markedStep_j64
    by_cases w : z = -1
    · rw [if_pos w]
      show _ = some (if z = -1 then nI c else -1)
      rw [if_pos w]
    · rw [if_neg w]
      show _ = some (if z = -1 then nI c else -1)
      rw [if_neg w]
/-- a step that is in a set has its put there -/
theorem RsT_put {s e a b : Nat → Int32} {k : Nat} (hk : k < 3008) : ∀ N n, RsT s e a b N n k → ∃ m, m ≤ n ∧ s m = nI k
  | 0, n, h => h.elim
  | N + 1, n, h => by
    by_cases q : n = N
    · rw [q] at h
      rcases RsT_s.mp h with ⟨-, w⟩ | ⟨j, -, -, w⟩ | ⟨m, w1, -, w3⟩ | ⟨m, w1, -, w3⟩
      · exact ⟨N, by omega, w⟩
      · omega
      · obtain ⟨m', a1, a2⟩ := RsT_put hk N m w3
        exact ⟨m', by omega, a2⟩
      · obtain ⟨m', a1, a2⟩ := RsT_put hk N m w3
        exact ⟨m', by omega, a2⟩
    · rw [RsT_n q] at h
      exact RsT_put hk N n h
theorem RX_in (hP : PI uc (o + 12) T N) (hX : RX uc um o r) (hT : Tr um r = T) : RXC (uc.2.1 (o + 13)) (uc.2.1 (o + 14)) (uc.2.1 (o + 19)) (uc.2.1 (o + 20)) (uc.2.1 (o + 21)) (uc.2.1 (o + 22)) N T (rS (Pm um r) (Lm um r) (rpm um r)) := by
  unfold RX at hX
  rw [hP.1, tnn (by have := hP.2.1; omega), hT] at hX
  exact hX
/-- the bits of rests, by the class's puts -/
theorem RX_bit {k : Nat} (hP : PI uc (o + 12) T N) (hX : RX uc um o r) (hT : Tr um r = T) (hG : okG (Pm um r) (Lm um r) (nr um r) T) (ht : t ≤ T) (hp : p < 40) (hk : k < 3808) : ¬ rsB um r t p k = 0 ↔ inU uc (o + 12) N (lat (uc.2.1 (o + 12 + 2)) p (cP (uc.2.1 (o + 12 + 1)) t N)) k := by
  rw [rsB_S hG ht hp hk]
  exact (RX_in hP hX hT).2.2 t p k ht hp hk
theorem c_rests {w : rg_U} (hP : PI uc (o + 12) T N) (hX : RX uc um o r) (hT : Tr um r = T) (hG : okG (Pm um r) (Lm um r) (nr um r) T) (ht : t ≤ T) (hp : p < 40) (hw : MkO uc w) (ho : 116 ≤ o) (hm : ∀ k, inU uc (o + 12) N (lat (uc.2.1 (o + 12 + 2)) p (cP (uc.2.1 (o + 12 + 1)) t N)) k ↔ ∃ n, n < N ∧ ¬ w.2.1 115 n = 0 ∧ ownK uc (o + 12) n k) (hF : 10000 < F) : g_X6_markedStep F (o + 12) z 115 3800 w = some (reA um r t p z) := by
  have hC := RX_in hP hX hT
  obtain ⟨c1, c2, c3⟩ := id hC
  have h8 := hP.2.1
  have hT3 := hP.2.2.1
  have hmono : monoP (uc.2.1 (o + 13)) N := hP.2.2.2.1
  have e7 : w.2.1 (o + 12 + 7) = uc.2.1 (o + 19) := hw.2.2 _ (by omega)
  have hlt : ∀ k, k < 3008 → inU uc (o + 12) N (lat (uc.2.1 (o + 12 + 2)) p (cP (uc.2.1 (o + 12 + 1)) t N)) k → k < t := fun k hk hi => by
    obtain ⟨n, n1, n2, n3⟩ := hi
    obtain ⟨m, m1, m2⟩ := RsT_put hk N n n3
    have hn : n < cP (uc.2.1 (o + 13)) t N := by
      rcases lat_pt (pp := uc.2.1 (o + 12 + 2)) (p := p) (cP (uc.2.1 (o + 12 + 1)) t N) with v | ⟨i, i1, v⟩
      · rw [v] at n2
        exact absurd n2.symm (nI_m1 (by omega))
      · rw [v] at n2
        have hle := cP_le (pt := uc.2.1 (o + 12 + 1)) (t := t) N
        have := nI_inj (by omega) (by omega) n2
        rw [← this]
        exact i1
    have hm2 : uc.2.1 (o + 19) m = nI k := m2
    have hmt := (cP_iff N hmono m (by omega)).mp (show m < cP (uc.2.1 (o + 13)) t N by omega)
    rcases (c1 m (by omega)).1 with v | ⟨k', k1, v1, v2⟩
    · rw [v] at hm2
      exact absurd hm2.symm (nI_m1 (by omega))
    · have := nI_inj (by omega) (by omega) (v1.symm.trans hm2)
      rw [v2, tnn (by omega)] at hmt
      omega
  have key := c_markedStep (F := F) (q := o + 12) (N := N) (t := t) (u := w) (z := z) (B := rsB um r t p) (MK_N hw hP.1) h8 (by omega) (fun n hn hmk => ?_) (fun i j k k' hij hj hk hk' e1 e2 => ?_) (fun k hk hb => ?_) hF
  · rw [key]
    rfl
  · rw [e7]
    rcases (c1 n hn).1 with v | ⟨k, k1, v1, -⟩
    · exact Or.inl v
    · have hin := (hm k).mpr ⟨n, hn, hmk, Or.inl ⟨by omega, v1⟩⟩
      exact Or.inr ⟨k, hlt k (by omega) hin, v1, (RX_bit hP hX hT hG ht hp (by omega)).mpr hin⟩
  · rw [e7] at e1 e2
    rcases (c1 i (by omega)).1 with v | ⟨a, a1, a2, a3⟩
    · rw [v] at e1
      exact absurd e1.symm (nI_m1 (by omega))
    · rcases (c1 j hj).1 with v | ⟨b, b1, b2, b3⟩
      · rw [v] at e2
        exact absurd e2.symm (nI_m1 (by omega))
      · have ea := nI_inj (by omega) (by omega) (a2.symm.trans e1)
        have eb := nI_inj (by omega) (by omega) (b2.symm.trans e2)
        have hmo := hmono i j hij hj
        rw [a3, b3, tnn (by omega), tnn (by omega)] at hmo
        rcases Nat.lt_or_ge k k' with v | v
        · exact v
        · have ekk : k' = k := by omega
          rw [ekk] at e2
          have := c2 i j k (by omega) hj hk e1 e2
          omega
  · obtain ⟨n, n1, n2, n3⟩ := (hm k).mp ((RX_bit hP hX hT hG ht hp (by omega)).mp hb)
    refine ⟨n, n1, n2, ?_⟩
    rw [e7]
    rcases n3 with ⟨-, v⟩ | ⟨j, -, -, v⟩
    · exact v
    · omega
theorem sr_rests (hF : 10000 < F) : SB pB (g_X9_rests F x y z) (g_X10_rests F x y z) := fun uc um h => by
  obtain ⟨K, W, r1, r2, -⟩ := id h
  obtain ⟨zc, e1, h1⟩ := mk_rests (F := F) (x := x) (y := y) (z := z) (mk_r r2.1) r2.2 hF
  have hRel := Rel_mk h h1
  have hz : ∀ a w, g_X9_rests F x y z uc = some (a, w) → zc.1 = a := fun a w e => by
    rw [e1] at e
    cases e
    rfl
  have bad : ¬ (isTm um x ∧ ¬ g_X10_isPlace y = 0) → zc.1 = -2 → ∃ zm, g_X10_rests F x y z um = some zm ∧ zc.1 = zm.1 ∧ RelC pB zc.2 zm.2 := fun hb e => by
    rcases m_rests (F := F) (x := x) (y := y) (z := z) r1 hF with ⟨-, q⟩ | ⟨t, p, u', -, w1, w2, w3, w4, w5, -⟩
    · exact ⟨_, q, e, hRel⟩
    · refine absurd ⟨⟨w1, t, w2, w3⟩, ?_⟩ hb
      rw [w5]
      exact in_nI (a := 0) (b := 39) (by omega) (by omega) (by decide)
  have key : ∃ zm, g_X10_rests F x y z um = some zm ∧ zc.1 = zm.1 ∧ RelC pB zc.2 zm.2 := by
    rcases Rel_ask (F := F) h r1 with ⟨e5, en⟩ | ⟨ea, e5, h5, en, hR⟩
    · refine bad (fun w => ?_) (hz (-2) uc (by unfold g_X9_rests; rw [en, ob_i, om_0]))
      have := w.1.1
      rw [e5] at this
      exact absurd this (by decide)
    · have hro := r1.1.2.2.2.2.1 _ ea
      have hG := hro.2.2.2.2.2.2.1.1
      have hT3 := hG.2.2.2.1
      obtain ⟨N, hS⟩ := hR.2.2.2.2.2.2
      rcases x7_hasI (F := F) (x := x) hS.1 hT3 with ⟨q1, q2⟩ | ⟨t, ht, rfl, q1⟩
      · exact bad (fun w => q2 w.1.2) (hz (-2) uc (by unfold g_X9_rests; rw [en, ob_i, om_i, ck_t (oR_rn h5), q1, ob_i, if_pos rfl]))
      · by_cases q3 : g_X10_isPlace y = 0
        · exact bad (fun w => w.2 q3) (hz (-2) uc (by unfold g_X9_rests; rw [en, ob_i, om_i, ck_t (oR_rn h5), q1, ob_i, if_neg (by decide), if_pos (by rw [cl_place]; exact q3)]))
        · obtain ⟨p, hp, rfl⟩ := isPl q3
          have hP := hS.2.2.2.1
          have ho := oR_ge (r := aR um)
          have hX := hR.2.2.2.2.1.2
          have hC := RX_in hP hX rfl
          obtain ⟨w, e2, hw, hm⟩ := c_markBelow (F := F) (x := lat (uc.2.1 (oR (aR um) + 12 + 2)) p (cP (uc.2.1 (oR (aR um) + 12 + 1)) t N)) hP.1 hP.2.1 (by omega) (lat_ok (cP_le N)) (fun n hn => (hC.1 n hn).2) hF
          have e3 := c_rests (F := F) (z := z) hP hX rfl hG ht hp hw ho hm hF
          have ec : zc.1 = reA um (aR um) t p z := hz _ w (by
            unfold g_X9_rests
            rw [en, ob_i, om_i, ck_t (oR_rn h5), q1, ob_i, if_neg (by decide), if_neg (by rw [cl_place]; exact q3), c_putBy hP hp (by omega) hF, ob_i, e2, ob_i, e3, ob_i])
          rcases m_rests (F := F) (x := nI t) (y := nI p) (z := z) r1 hF with ⟨w', -⟩ | ⟨t2, p2, u', w0, w1, w2, w3, w4, w5, q, hok, hce⟩
          · exact absurd ⟨⟨e5, t, ht, rfl⟩, q3⟩ w'
          · have et : t = t2 := nI_inj (by omega) (by omega) w3
            have ep : p = p2 := nI_inj (by omega) (by omega) w5
            subst et ep
            exact ⟨_, q, ec, Rel_e hRel r1 hce hok⟩
  obtain ⟨zm, a1, a2, a3⟩ := key
  exact ⟨zc, zm, e1, a1, a2, a3⟩
theorem x3_hasI {n : Nat} (hn : rF uc (o + 6) 5 = nI n) (h8 : n ≤ 800) : (g_X3_has F (o + 6) x uc = some 0 ∧ ¬ ∃ e, e < n ∧ x = nI e) ∨ ∃ e, e < n ∧ x = nI e ∧ g_X3_has F (o + 6) x uc = some 1 := by
  by_cases q : ∃ e, e < n ∧ x = nI e
  · obtain ⟨e, he, rfl⟩ := q
    exact Or.inr ⟨e, he, rfl, x3_has hn h8 he⟩
  · refine Or.inl ⟨?_, q⟩
    unfold g_X3_has
    by_cases q1 : x < 0
    · rw [if_pos q1]
    · obtain ⟨k, hk, rfl⟩ := nI_of q1
      rw [if_neg q1, hn, if_pos (nI_le (by
        have : ¬ k < n := fun w => q ⟨k, w, rfl⟩
        omega) hk)]
theorem c_hangl {e0 a n : Nat} {w : rg_U} (hP : PI uc (o + 12) T N) (hX : RX uc um o r) (hT : Tr um r = T) (hG : okG (Pm um r) (Lm um r) (nr um r) T) (ht : t ≤ T) (hw : MkO uc w) (ho : 116 ≤ o) (he : e0 < 800) (hm : ∀ n, n < N → (¬ w.2.1 115 n = 0 ↔ RsU uc (o + 12) N n (3008 + e0))) (ha : g_X9_firstPlaceOf y = nI a) (hn : g_X9_placesOf y = nI n) (han : a + n ≤ 40) (hF : 10000 < F) : lp (fun (s : (Int32 × Int32)) => g_X9_hangs_l65 F o (nI t) y w s.1 s.2) F ((0 : Int32), (0 : Int32)) = some (hgB (fun p => rsB um r t p (3008 + e0)) a n) := by
  have hT3 := hP.2.2.1
  have h8 := hP.2.1
  have hPw : PI w (o + 12) T N := PI_c hP (by rw [hw.1]) (fun j j1 j2 => hw.2.2 j (by omega)) (hw.2.2 _ (by omega))
  have h := lp_up (body := fun (s : Int32 × Int32) => g_X9_hangs_l65 F o (nI t) y w s.1 s.2) (fun i => (hgB (fun p => rsB um r t p (3008 + e0)) a i, nI i)) n (hgB (fun p => rsB um r t p (3008 + e0)) a n) (fun i hi => by
    show g_X9_hangs_l65 F o (nI t) y w (hgB (fun p => rsB um r t p (3008 + e0)) a i) (nI i) = _
    obtain ⟨v, e1, hv⟩ := c_isM (F := F) (u := w) (x := lat (w.2.1 (o + 12 + 2)) (a + i) (cP (w.2.1 (o + 12 + 1)) t N)) h8 (lat_ok (cP_le N))
    unfold g_X9_hangs_l65 g_X9_hangs_j109
    rw [hn, if_neg (nI_ge hi (by omega)), ha, nI_add, c_putBy hPw (by omega) (by omega) hF, ob_i, e1, ob_i, nI_1]
    show _ = some (Sum.inl (hgB (fun p => rsB um r t p (3008 + e0)) a i ||| (if rsB um r t (a + i) (3008 + e0) = 0 then 0 else dx_shl 1 (nI i)), nI (i + 1)))
    have hbit : ¬ v = 0 ↔ ¬ rsB um r t (a + i) (3008 + e0) = 0 := by
      rw [hv, RX_bit hP hX hT hG ht (by omega) (by omega), hw.2.2 (o + 12 + 2) (by omega), hw.2.2 (o + 12 + 1) (by omega)]
      constructor
      · rintro ⟨m, m1, m2, m3⟩
        exact ⟨m, m1, m2, (hm m m1).mp m3⟩
      · rintro ⟨m, m1, m2, m3⟩
        exact ⟨m, m1, m2, (hm m m1).mpr m3⟩
    by_cases c : v = 0
    · have c2 : rsB um r t (a + i) (3008 + e0) = 0 := Classical.byContradiction fun w2 => (hbit.mpr w2) c
      rw [if_pos c, if_pos c2, Int32.or_zero]
    · rw [if_neg c, if_neg (hbit.mp c)]) (by
    show g_X9_hangs_l65 F o (nI t) y w _ (nI n) = _
    unfold g_X9_hangs_l65
    rw [hn, if_pos (nI_le (Nat.le_refl _) (by omega))]) F 0 (Nat.zero_le _) (by omega)
  exact h
theorem sr_hangs (hF : 10000 < F) : SB pB (g_X9_hangs F x y z) (g_X10_hangs F x y z) := fun uc um h => by
  obtain ⟨K, W, r1, r2, -⟩ := id h
  obtain ⟨zc, e1, h1⟩ := mk_hangs (F := F) (x := x) (y := y) (z := z) (mk_r r2.1) r2.2 hF
  have hRel := Rel_mk h h1
  have hz : ∀ a w, g_X9_hangs F x y z uc = some (a, w) → zc.1 = a := fun a w e => by
    rw [e1] at e
    cases e
    rfl
  have hpw : g_X9_isPlacesWhat z = 0 ↔ g_X10_isIn z 0 1 = 0 := by
    unfold g_X9_isPlacesWhat
    rw [← cl_flag]
  have bad : ¬ (isTm um y ∧ (∃ e, e < nr um (aR um) ∧ x = nI e) ∧ ¬ g_X10_isIn z 0 1 = 0) → zc.1 = -1000001 → ∃ zm, g_X10_hangs F x y z um = some zm ∧ zc.1 = zm.1 ∧ RelC pB zc.2 zm.2 := fun hb e => by
    rcases m_hangs (F := F) (x := x) (y := y) (z := z) r1 hF with ⟨q, -⟩ | ⟨t, e0, u', -, w1, w2, w3, w4, w5, w6, -⟩
    · exact ⟨_, q, e, hRel⟩
    · exact absurd ⟨⟨w1, t, w2, w3⟩, ⟨e0, w4, w5⟩, w6⟩ hb
  have key : ∃ zm, g_X10_hangs F x y z um = some zm ∧ zc.1 = zm.1 ∧ RelC pB zc.2 zm.2 := by
    rcases Rel_ask (F := F) h r1 with ⟨e5, en⟩ | ⟨ea, e5, h5, en, hR⟩
    · refine bad (fun w => ?_) (hz (-1000001) uc (by unfold g_X9_hangs; rw [en, ob_i, om_0]))
      have := w.1.1
      rw [e5] at this
      exact absurd this (by decide)
    · have hro := r1.1.2.2.2.2.1 _ ea
      have hG := hro.2.2.2.2.2.2.1.1
      have hT3 := hG.2.2.2.1
      have hn8 := hG.2.2.1
      obtain ⟨N, hS⟩ := hR.2.2.2.2.2.2
      rcases x3_hasI (F := F) (x := x) hR.2.1.1 hn8 with ⟨q1, q2⟩ | ⟨e0, he0, rfl, q1⟩
      · exact bad (fun w => q2 w.2.1) (hz (-1000001) uc (by unfold g_X9_hangs; rw [en, ob_i, om_i, ck_t (oR_rn h5), q1, ob_i, if_pos rfl]))
      rcases x7_hasI (F := F) (x := y) hS.1 hT3 with ⟨p1, p2⟩ | ⟨t, ht, rfl, p1⟩
      · exact bad (fun w => p2 w.1.2) (hz (-1000001) uc (by unfold g_X9_hangs; rw [en, ob_i, om_i, ck_t (oR_rn h5), q1, ob_i, if_neg (by decide), p1, ob_i, if_pos rfl]))
      by_cases q3 : g_X10_isIn z 0 1 = 0
      · exact bad (fun w => w.2.2 q3) (hz (-1000001) uc (by unfold g_X9_hangs; rw [en, ob_i, om_i, ck_t (oR_rn h5), q1, ob_i, if_neg (by decide), p1, ob_i, if_neg (by decide), if_pos (hpw.mpr q3)]))
      · have hP := hS.2.2.2.1
        have ho := oR_ge (r := aR um)
        have hX := hR.2.2.2.2.1.2
        have hC := RX_in hP hX rfl
        obtain ⟨w, e2, hw, hm⟩ := c_markAbove (F := F) (e0 := e0) hP.1 hP.2.1 (by omega) (by omega) (fun n hn => (hC.1 n hn).2) hF
        rcases m_hangs (F := F) (x := nI e0) (y := nI t) (z := z) r1 hF with ⟨-, w'⟩ | ⟨t2, e02, u', w0, w1, w2, w3, w4, w5, w6, q, hok, hce⟩
        · exact absurd ⟨⟨e5, t, ht, rfl⟩, ⟨e0, he0, rfl⟩, q3⟩ w'
        · have et : t = t2 := nI_inj (by omega) (by omega) w3
          have ep : e0 = e02 := nI_inj (by omega) (by omega) w5
          subst et ep
          by_cases z0 : z = 0
          · have e3 := c_hangl (F := F) (y := z) (a := 0) (n := 8) hP hX rfl hG ht hw ho (by omega) hm (by unfold g_X9_firstPlaceOf; rw [if_pos z0]; rfl) (by unfold g_X9_placesOf; rw [if_pos z0]; rfl) (by omega) hF
            rw [if_pos z0] at q
            refine ⟨_, q, hz _ w ?_, Rel_e hRel r1 hce hok⟩
            unfold g_X9_hangs
            rw [en, ob_i, om_i, ck_t (oR_rn h5), q1, ob_i, if_neg (by decide), p1, ob_i, if_neg (by decide), if_neg (fun v => q3 (hpw.mp v)), e2, ob_i, e3, ob_i]
          · have e3 := c_hangl (F := F) (y := z) (a := 8) (n := 32) hP hX rfl hG ht hw ho (by omega) hm (by unfold g_X9_firstPlaceOf; rw [if_neg z0]; rfl) (by unfold g_X9_placesOf; rw [if_neg z0]; rfl) (by omega) hF
            rw [if_neg z0] at q
            refine ⟨_, q, hz _ w ?_, Rel_e hRel r1 hce hok⟩
            unfold g_X9_hangs
            rw [en, ob_i, om_i, ck_t (oR_rn h5), q1, ob_i, if_neg (by decide), p1, ob_i, if_neg (by decide), if_neg (fun v => q3 (hpw.mp v)), e2, ob_i, e3, ob_i]
  obtain ⟨zm, a1, a2, a3⟩ := key
  exact ⟨zc, zm, e1, a1, a2, a3⟩
end ZD
end W_94
