theorem m_laysRests {F K W r x : Nat} {u : rg_U} (h : okM u K W) (ha : act u K r) (hx : x ≤ Tr u r) (hF : 10000 < F) : ∃ w, g_X10_laysRests F (nI r) (nI x) u = some w ∧ coreEq u w ∧ okM w K W ∧ w.2.1 33 = (rsR (Pm u r) (Lm u r) (nr u r) (fun i => if i < 4760 then 0 else u.2.1 33 i) (u.2.1 34) x).1 := by
  have hK := h.1.1.2.1
  have hr := act5 hK ha
  have hro := h.1.2.2.2.2.1 r ha
  have hG := hro.2.2.2.2.2.2.1.1
  have n8 := hG.2.2.1
  obtain ⟨w, e, w1, w2, w3⟩ := lp_ex (body := fun (s : Int32 × rg_U) => g_X10_laysRests_l2 F (nI r) (nI x) s.1 s.2) (P := fun k s => ∃ m, k + m = 4760 ∧ s.1 = nI m ∧ s.2.1 = u.1 ∧ s.2.2.2 = u.2.2 ∧ ∀ j i, s.2.2.1 j i = if j = 33 ∧ i < m then 0 else u.2.1 j i) (R := fun w => w.1 = u.1 ∧ w.2.2 = u.2.2 ∧ ∀ j i, w.2.1 j i = if j = 33 ∧ i < 4760 then 0 else u.2.1 j i) (by
    rintro k ⟨s1, s2⟩ ⟨m, hm, e1, e2, e3, hv⟩
    dsimp only at e1 e2 e3 hv
    subst e1
    unfold g_X10_laysRests_l2
    dsimp only
    by_cases q : m = 4760
    · right
      subst q
      exact ⟨s2, if_pos (by decide), e2, e3, hv⟩
    · left
      rw [if_neg (show ¬ (4760 : Int32) ≤ nI m from nI_ge (a := m) (b := 4760) (by omega) (by decide)), ck_t (inb_nI (by omega) (by decide)), lt1_i, sA_nI (by omega), nI_1]
      refine ⟨_, k - 1, rfl, by omega, m + 1, by omega, rfl, e2, e3, fun j i => ?_⟩
      rw [R_at, hv j i]
      by_cases z : j = 33 ∧ i = m
      · rw [if_pos z, if_pos (show j = 33 ∧ i < m + 1 by omega)]
      · rw [if_neg z]
        by_cases y : j = 33 ∧ i < m
        · rw [if_pos y, if_pos (show j = 33 ∧ i < m + 1 by omega)]
        · rw [if_neg y, if_neg (show ¬ (j = 33 ∧ i < m + 1) by omega)]) F 4760 ((0 : Int32), u) (by omega) ⟨0, rfl, rfl, rfl, rfl, fun j i => by rw [if_neg (by omega)]⟩
  unfold g_X10_laysRests
  rw [e, ob_i, lt1_i, lt1_i]
  obtain ⟨v, c1, c2, c3⟩ := m_clears (F := F) (o := 31) (u := sF (sF w 0 41 (nI r)) 0 42 0) (by omega)
  rw [c1, ob_i]
  have q0 : qS u v r zrow 0 (fun i => if i < 4760 then 0 else u.2.1 33 i) (u.2.1 34) := by
    have hv1 : v.1 = upd (upd w.1 41 (nI r)) 42 0 := c2.1
    refine ⟨fun k h1 h2 h3 h4 h5 => by rw [hv1, pk_un h5, pk_un h4, w1], by rw [hv1, pk_un (by decide), pk_us], by rw [hv1, pk_us]; rfl, ?_, ?_, ?_, fun j h1 h2 h3 => ?_⟩
    · funext i
      rw [c3]
      by_cases z : i < 134
      · rw [if_pos ⟨rfl, z⟩]; rfl
      · rw [if_neg (fun y => z y.2)]
        show w.2.1 31 i = 0
        rw [w3, if_neg (fun y => absurd y.1 (by decide))]
        exact h.2.2.2.2.1 i (by omega)
    · funext i
      rw [c3, if_neg (fun y => absurd y.1 (by decide))]
      show w.2.1 33 i = _
      rw [w3]
      by_cases z : i < 4760
      · rw [if_pos ⟨rfl, z⟩, if_pos z]
      · rw [if_neg (fun y => z y.2), if_neg z]
    · funext i
      rw [c3, if_neg (fun y => absurd y.1 (by decide))]
      show w.2.1 34 i = _
      rw [w3, if_neg (fun y => absurd y.1 (by decide))]
    · funext i
      rw [c3, if_neg (fun y => h1 y.1)]
      show w.2.1 j i = _
      rw [w3, if_neg (fun y => h2 y.1)]
  obtain ⟨v2, d1, d2⟩ := m_restPokes (F := F) hr hro.1 n8 hG.2.1 hF (nr u r - 0) 0 _ _ _ v q0 rfl (Nat.zero_le _) F (by omega)
  unfold g_X10_restPokes
  rw [d1, ob_i, ob_i]
  obtain ⟨v3, f1, f2⟩ := m_restsl (F := F) (R := fun i => if i < 4760 then 0 else u.2.1 33 i) (A := u.2.1 34) hr hro.1 hG hx hF x 0 v2 (by omega) d2 F (by have := Tr3 h.1 ha; omega)
  rw [f1, ob_i]
  obtain ⟨a1, a2, a3, a4, a5, a6, a7⟩ := f2
  have hc : coreEq u v3 := ⟨fun j hj => a7 j (by omega) (by omega) (by omega), fun k hk => a1 k (by omega) (by omega) (by omega) (by omega) (by omega)⟩
  refine ⟨v3, rfl, hc, ⟨core_eq hc h.1, ?_⟩, a5⟩
  exact simM_c (u := sX u 0 0 0 (nI r) (nI (rpm u r x).2) (rpm u r x).1) (u' := v3) (fun j h1 h2 h3 => by rw [sX_An (by omega)]; exact a7 j (by omega) (by omega) (by omega)) (by rw [sX_A]; exact a4) (by rw [sX_An (by decide)]; exact a7 37 (by decide) (by decide) (by decide)) (by rw [a2]; exact sX_41.symm) (by rw [a3]; exact sX_42.symm) (simM_lay h.1 h.2 ha hx)
def rbt (R : Nat → Int32) (p k : Nat) : Int32 := if (dx_shr (R (119 * p + k / 32)) (nI k &&& 31) &&& 1) = 1 then 1 else 0
theorem m_bit {F p k : Nat} {w : rg_U} (hp : p < 40) (hk : k < 3808) : g_X10_restsOnBit F (nI p) (nI k) w = some (rbt (w.2.1 33) p k) := by
  unfold g_X10_restsOnBit rbt
  rw [shr5 (by omega), show (119 : Int32) * nI p + nI (k / 32) = nI (119 * p + k / 32) by rw [show (119 : Int32) * nI p = nI (119 * p) from pk_mul 119 _, nI_add], ck_t (inb_nI (by omega) (by decide)), rA_nI (by omega)]
  by_cases q : (dx_shr (w.2.1 33 (119 * p + k / 32)) (nI k &&& 31) &&& 1) = 1
  · rw [if_pos q, if_pos q]
  · rw [if_neg q, if_neg q]
def rsF (B : Nat → Int32) (x : Int32) : Nat → Nat → Nat → Nat ⊕ Nat
  | 0, c, _ => .inr c
  | f + 1, c, k => if B k = 0 then rsF B x f c (k + 1) else if nI c = x then .inl k else rsF B x f (c + 1) (k + 1)
theorem m_restsw {F p t : Nat} {z : Int32} {w : rg_U} (hp : p < 40) (ht : t ≤ 3000) : ∀ (f c k : Nat), f + k = t → ∀ G, f < G → lp (fun (s : Int32 × Int32) => g_X10_rests_l33 F (nI t) (nI p) z w s.1 s.2) G (nI c, nI k) = some (match rsF (rbt (w.2.1 33) p) z f c k with | .inl j => Sum.inl (nI j) | .inr c => Sum.inr (nI c))
  | f, c, k, hf, 0, hG => by omega
  | 0, c, k, hf, G + 1, hG => by
    refine lp_r ?_
    unfold g_X10_rests_l33
    dsimp only
    rw [if_pos (nI_le (by omega) (by omega))]
    rfl
  | f + 1, c, k, hf, G + 1, hG => by
    have hb : g_X10_rests_l33 F (nI t) (nI p) z w (nI c) (nI k) = if rbt (w.2.1 33) p k = 0 then some (.inl (nI c, nI (k + 1))) else if nI c = z then some (.inr (Sum.inl (nI k))) else some (.inl (nI (c + 1), nI (k + 1))) := by
      unfold g_X10_rests_l33 g_X10_rests_j64
      rw [if_neg (nI_ge (by omega) (by omega)), m_bit hp (by omega), ob_i, nI_1, nI_1]
    unfold rsF
    by_cases q : rbt (w.2.1 33) p k = 0
    · rw [if_pos q] at hb
      rw [lp_l (body := fun (s : Int32 × Int32) => g_X10_rests_l33 F (nI t) (nI p) z w s.1 s.2) (s := (nI c, nI k)) hb, if_pos q]
      exact m_restsw hp ht f c (k + 1) (by omega) G (by omega)
    · rw [if_neg q] at hb
      rw [if_neg q]
      by_cases y : nI c = z
      · rw [if_pos y] at hb
        rw [lp_r (body := fun (s : Int32 × Int32) => g_X10_rests_l33 F (nI t) (nI p) z w s.1 s.2) (s := (nI c, nI k)) hb, if_pos y]
      · rw [if_neg y] at hb
        rw [lp_l (body := fun (s : Int32 × Int32) => g_X10_rests_l33 F (nI t) (nI p) z w s.1 s.2) (s := (nI c, nI k)) hb, if_neg y]
        exact m_restsw hp ht f (c + 1) (k + 1) (by omega) G (by omega)
/-- the bits of rests of run r at the time t -/
def rsB (u : rg_U) (r t p k : Nat) : Int32 := rbt (rsR (Pm u r) (Lm u r) (nr u r) (fun i => if i < 4760 then 0 else u.2.1 33 i) (u.2.1 34) t).1 p k
def reA (u : rg_U) (r t p : Nat) (z : Int32) : Int32 := match rsF (rsB u r t p) z t 0 0 with
  | .inl j => nI j
  | .inr c => if z = -1 then nI c else -1
theorem m_rests {F K W : Nat} {x y z : Int32} {u : rg_U} (h : okM u K W) (hF : 10000 < F) : (¬ (isTm u x ∧ ¬ g_X10_isPlace y = 0) ∧ g_X10_rests F x y z u = some (-2, u)) ∨ ∃ t p w, act u K (aR u) ∧ u.2.1 5 (aR u) = 1 ∧ t ≤ Tr u (aR u) ∧ x = nI t ∧ p < 40 ∧ y = nI p ∧ g_X10_rests F x y z u = some (reA u (aR u) t p z, w) ∧ okM w K W ∧ coreEq u w := by
  unfold g_X10_rests
  rcases m_time (F := F) (x := x) h.1 with ⟨q1, q2⟩ | ⟨t, q1, q2, q3, q4, rfl⟩
  · rw [q1, ob_i, if_pos rfl]
    exact Or.inl ⟨fun w => q2 w.1, rfl⟩
  rw [q1, ob_i, if_neg one_n0]
  by_cases qp : g_X10_isPlace y = 0
  · rw [if_pos qp]; exact Or.inl ⟨fun w => w.2 qp, rfl⟩
  rw [if_neg qp, m_ask h.1, ob_i]
  obtain ⟨p, hp, rfl⟩ := isPl qp
  have hT3 := Tr3 h.1 q2
  obtain ⟨w, e1, e2, e3, e4⟩ := m_laysRests h q2 q4 hF
  have e5 := m_restsw (F := F) (p := p) (t := t) (z := z) (w := w) hp (by omega) t 0 0 rfl F (by omega)
  rw [e1, ob_i, show lp (fun (s : Int32 × Int32) => g_X10_rests_l33 F (nI t) (nI p) z w s.1 s.2) F ((0 : Int32), (0 : Int32)) = _ from e5, ob_i]
  refine Or.inr ⟨t, p, w, q2, q3, q4, rfl, hp, rfl, ?_, e3, e2⟩
  unfold reA
  rw [show rsB u (aR u) t p = rbt (w.2.1 33) p by rw [e4]; rfl]
  cases rsF (rbt (w.2.1 33) p) z t 0 0 with
  | inl j => rfl
  | inr c =>
    show (if z = -1 then some (nI c, w) else some (-1, w)) = some ((if z = -1 then nI c else -1), w)
    by_cases z1 : z = -1
    · rw [if_pos z1, if_pos z1]
    · rw [if_neg z1, if_neg z1]
def hgB (B : Nat → Int32) (a : Nat) : Nat → Int32
  | 0 => 0
  | k + 1 => hgB B a k ||| (if B (a + k) = 0 then 0 else dx_shl 1 (nI k))
theorem m_hangl {F a n e : Nat} {w : rg_U} (han : a + n ≤ 40) (he : e < 800) (hF : 10000 < F) : g_X10_hangs_j77 F (nI e) 0 (nI a) (nI n) w = some (hgB (fun p => rbt (w.2.1 33) p (3008 + e)) a n, w) := by
  have h := lp_up (body := fun (s : Int32 × Int32) => g_X10_hangs_l82 F (nI e) (nI a) (nI n) w s.1 s.2) (fun k => (hgB (fun p => rbt (w.2.1 33) p (3008 + e)) a k, nI k)) n (hgB (fun p => rbt (w.2.1 33) p (3008 + e)) a n) (fun k hk => by
    show g_X10_hangs_l82 F (nI e) (nI a) (nI n) w (hgB (fun p => rbt (w.2.1 33) p (3008 + e)) a k) (nI k) = _
    unfold g_X10_hangs_l82 g_X10_hangs_j116
    rw [if_neg (nI_ge hk (by omega)), nI_add, show (3008 : Int32) + nI e = nI (3008 + e) from nI_add 3008 e, m_bit (by omega) (by omega), ob_i, nI_1]
    show _ = some (Sum.inl (hgB (fun p => rbt (w.2.1 33) p (3008 + e)) a k ||| (if rbt (w.2.1 33) (a + k) (3008 + e) = 0 then 0 else dx_shl 1 (nI k)), nI (k + 1)))
    by_cases z : rbt (w.2.1 33) (a + k) (3008 + e) = 0
    · rw [if_pos z, if_pos z]
    · rw [if_neg z, if_neg z]) (by
    show g_X10_hangs_l82 F (nI e) (nI a) (nI n) w _ (nI n) = _
    unfold g_X10_hangs_l82
    rw [if_pos (nI_le (Nat.le_refl _) (by omega))]) F 0 (Nat.zero_le _) (by omega)
  unfold g_X10_hangs_j77
  rw [show lp (fun (s : Int32 × Int32) => g_X10_hangs_l82 F (nI e) (nI a) (nI n) w s.1 s.2) F ((0 : Int32), (0 : Int32)) = _ from h, ob_i]
theorem m_hangs {F K W : Nat} {x y z : Int32} {u : rg_U} (h : okM u K W) (hF : 10000 < F) : (g_X10_hangs F x y z u = some (-1000001, u) ∧ ¬ (isTm u y ∧ (∃ e, e < nr u (aR u) ∧ x = nI e) ∧ ¬ g_X10_isIn z 0 1 = 0)) ∨ ∃ t e w, act u K (aR u) ∧ u.2.1 5 (aR u) = 1 ∧ t ≤ Tr u (aR u) ∧ y = nI t ∧ e < nr u (aR u) ∧ x = nI e ∧ ¬ g_X10_isIn z 0 1 = 0 ∧ g_X10_hangs F x y z u = some ((if z = 0 then hgB (fun p => rsB u (aR u) t p (3008 + e)) 0 8 else hgB (fun p => rsB u (aR u) t p (3008 + e)) 8 32), w) ∧ okM w K W ∧ coreEq u w := by
  obtain ⟨h5, -⟩ := aR_ok h.1
  unfold g_X10_hangs
  rw [m_ask h.1, ob_i]
  rcases m_time (F := F) (x := y) h.1 with ⟨q1, q2⟩ | ⟨t, q1, q2, q3, q4, rfl⟩
  · rw [q1, ob_i, if_pos rfl]
    exact Or.inl ⟨rfl, fun w => q2 w.1⟩
  have hro := h.1.2.2.2.2.1 _ q2
  have n8 := hro.2.2.2.2.2.2.1.1.2.2.1
  rw [q1, ob_i, if_neg one_n0, ck_t (inb_nI h5 (by decide)), rA_nI (by omega), hro.1]
  by_cases qe : g_X10_isIn x 0 (nI (nr u (aR u)) - 1) = 0
  · rw [if_pos qe]
    refine Or.inl ⟨rfl, fun ⟨_, ⟨e, he, ex⟩, _⟩ => ?_⟩
    rw [ex, show nI (nr u (aR u)) - 1 = nI (nr u (aR u) - 1) from nI_sub (b := 1) (by omega)] at qe
    exact in_nI (a := 0) (by omega) (by omega) (by omega) qe
  rw [if_neg qe]
  obtain ⟨e, he, rfl⟩ := in_bel qe (by omega)
  by_cases qz : g_X10_isIn z 0 1 = 0
  · rw [if_pos qz]
    exact Or.inl ⟨rfl, fun w => w.2.2 qz⟩
  rw [if_neg qz]
  obtain ⟨w, e1, e2, e3, e4⟩ := m_laysRests h q2 q4 hF
  rw [e1, ob_i]
  refine Or.inr ⟨t, e, w, q2, q3, q4, rfl, he, rfl, qz, ?_, e3, e2⟩
  rw [show (fun p => rsB u (aR u) t p (3008 + e)) = fun p => rbt (w.2.1 33) p (3008 + e) by rw [e4]; rfl]
  unfold g_X10_hangs_j64
  by_cases z0 : z = 0
  · rw [if_pos z0, if_pos z0, if_pos z0]
    exact m_hangl (a := 0) (n := 8) (by omega) (by omega) hF
  · rw [if_neg z0, if_neg z0, if_neg z0]
    exact m_hangl (a := 8) (n := 32) (by omega) (by omega) hF
