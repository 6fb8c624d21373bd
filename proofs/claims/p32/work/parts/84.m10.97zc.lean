section W_43
-- 97zc.rests
theorem qS_fl {u v : rg_U} {r l : Nat} {m : Row} {R A : Nat → Int32} {a b c : Int32} (h : qS u v r m l R A) : qS u (fl3 v a b c) r m l R A := by
  obtain ⟨a1, a2, a3, a4, a5, a6, a7⟩ := h
  refine ⟨fun k h1 h2 h3 h4 h5 => ?_, ?_, ?_, a4, a5, a6, a7⟩
  · show upd (upd (upd v.1 37 a) 38 b) 39 c k = _
    rw [pk_un h3, pk_un h2, pk_un h1]; exact a1 k h1 h2 h3 h4 h5
  · show upd (upd (upd v.1 37 a) 38 b) 39 c 41 = _
    rw [pk_un (by decide), pk_un (by decide), pk_un (by decide)]; exact a2
  · show upd (upd (upd v.1 37 a) 38 b) 39 c 42 = _
    rw [pk_un (by decide), pk_un (by decide), pk_un (by decide)]; exact a3
def rsN (P : Prg) (L : Lg) (n : Nat) (m : Row) (l : Nat) (R A : Nat → Int32) : (Nat → Int32) × (Nat → Int32) := rpk L n (n - (if (mstep P m (L.2.2.1 l) (nI l)).2.2.1 = -1 then l else l + 1)) (mstep P m (L.2.2.1 l) (nI l)).1 (if (mstep P m (L.2.2.1 l) (nI l)).2.2.1 = -1 then l else l + 1) (if (mstep P m (L.2.2.1 l) (nI l)).2.2.2 = -1 then R else stR R (lkA P m l R A) (tn (mstep P m (L.2.2.1 l) (nI l)).2.2.2)) (lkA P m l R A)
theorem m_restStep {F r n T t x : Nat} {u v : rg_U} {R A : Nat → Int32} (hr : r < 5) (hn : u.2.1 15 r = nI n) (hG : okG (Pm u r) (Lm u r) n T) (h : qS u v r (rp (Pm u r) (Lm u r) n t).1 (rp (Pm u r) (Lm u r) n t).2 R A) (ht : t < x) (hx : x ≤ T) (hF : 10000 < F) : ∃ w, g_X10_laysRests_l44 F (nI r) (nI x) v = some (.inl w) ∧ qS u w r (rp (Pm u r) (Lm u r) n (t + 1)).1 (rp (Pm u r) (Lm u r) n (t + 1)).2 (rsN (Pm u r) (Lm u r) n (rp (Pm u r) (Lm u r) n t).1 (rp (Pm u r) (Lm u r) n t).2 R A).1 (rsN (Pm u r) (Lm u r) n (rp (Pm u r) (Lm u r) n t).1 (rp (Pm u r) (Lm u r) n t).2 R A).2 := by
  obtain ⟨i1, i2, i3⟩ := rp_ok hG t (by omega)
  have n8 := hG.2.2.1
  have hT := hG.2.2.2.1
  have htake := hG.2.2.2.2 t (by omega)
  rw [show rp (Pm u r) (Lm u r) n (t + 1) = nxt (Pm u r) (Lm u r) n (rp (Pm u r) (Lm u r) n t).1 (rp (Pm u r) (Lm u r) n t).2 from rfl]
  generalize (rp (Pm u r) (Lm u r) n t).1 = m at *
  generalize (rp (Pm u r) (Lm u r) n t).2 = l at *
  obtain ⟨⟨cn, hc1, hc2⟩, d, hd1, hd2, -⟩ := id i1
  obtain ⟨eP, eL⟩ := qS_P h
  obtain ⟨a1, a2, a3, a4, a5, a6, a7⟩ := id h
  unfold g_X10_laysRests_l44
  rw [ck_t (show inb 133 134 by decide), show rA v 31 133 = nI t from (congrFun a4 133).trans i2, if_neg (nI_ge ht (by omega)), m_looks (r := r) (cn := cn) (l := l) (t := t) hr (by rw [eP]; exact hG.1) a2 a3 (by omega) (by rw [eP, ← hc2]; intro q; have := htake q; omega) (by rw [a4]; exact hc2) hc1 (by rw [a4]; exact i2) (by omega) hF, ob_i, eP, a4, a5, a6]
  have q35 := qS_34 (A' := lkA (Pm u r) m l R A) h
  obtain ⟨fP, fL⟩ := qS_P q35
  have hst := m_steps (F := F) (o := 31) (r := r) (cn := cn) (d := d) (ee := l) (u := rw_ v 34 (lkA (Pm u r) m l R A)) hr (by decide) (by rw [fP]; exact hG.1) (by rw [q35.2.2.2.1]; exact hc2) hc1 (by rw [q35.2.2.2.1]; exact hd2) hd1 (by rw [fP, ← hc2]; intro q; have := htake q; omega)
  have e12a : (rw_ v 34 (lkA (Pm u r) m l R A)).2.1 12 (800 * r + l) = u.2.1 12 (800 * r + l) := by rw [q35.2.2.2.2.2.2 12 (by decide) (by decide) (by decide)]
  have e12 : mstep (Pm u r) m (u.2.1 12 (800 * r + l)) (nI l) = mstep (Pm u r) m ((Lm u r).2.2.1 l) (nI l) := by
    by_cases q : kindOf (Pm u r) (m 120) = 19 ∨ kindOf (Pm u r) (m 120) = 20
    · have := htake q
      rw [show (Lm u r).2.2.1 l = u.2.1 12 (800 * r + l) from Lm_2 (by omega)]
    · exact step_num hG.1 i1 (fun z => q (Or.inl z)) (fun z => q (Or.inr z))
  rw [fP, q35.2.2.2.1, e12a, e12] at hst
  rw [show rF (rw_ v 34 (lkA (Pm u r) m l R A)) 0 42 = nI l from a3, hst, ob_i]
  unfold nxt rsN
  have htk := nxt_l (num := (Lm u r).2.2.1 l) hG.1 i1 (show l < 2 ^ 31 by omega)
  have hput := step_put (num := (Lm u r).2.2.1 l) (en := nI l) hG.1 i1
  generalize mstep (Pm u r) m ((Lm u r).2.2.1 l) (nI l) = z at *
  have s40 : qS u (sTp (rw_ v 34 (lkA (Pm u r) m l R A)) 31 z) r z.1 l R (lkA (Pm u r) m l R A) := qS_31 (qS_fl q35)
  have e38 : rF (sTp (rw_ v 34 (lkA (Pm u r) m l R A)) 31 z) 0 38 = z.2.2.1 := by
    show upd (upd (upd v.1 37 z.2.1) 38 z.2.2.1) 39 z.2.2.2 38 = _
    rw [pk_un (by decide), pk_us]
  have e39 : (sTp (rw_ v 34 (lkA (Pm u r) m l R A)) 31 z).1 39 = z.2.2.2 := by
    show upd (upd (upd v.1 37 z.2.1) 38 z.2.2.1) 39 z.2.2.2 39 = _
    rw [pk_us]
  have fin : ∀ (s : rg_U) (l' : Nat), l' ≤ n → s.1 39 = z.2.2.2 → qS u s r z.1 l' R (lkA (Pm u r) m l R A) → ∃ w, g_X10_laysRests_j91 F (nI r) (nI x) s = some (.inl w) ∧ qS u w r (spk (Lm u r) n z.1 l').1 (spk (Lm u r) n z.1 l').2 (rpk (Lm u r) n (n - l') z.1 l' (if z.2.2.2 = -1 then R else stR R (lkA (Pm u r) m l R A) (tn z.2.2.2)) (lkA (Pm u r) m l R A)).1 (rpk (Lm u r) n (n - l') z.1 l' (if z.2.2.2 = -1 then R else stR R (lkA (Pm u r) m l R A) (tn z.2.2.2)) (lkA (Pm u r) m l R A)).2 := by
    intro s l' hl' h39 hs
    unfold g_X10_laysRests_j91 g_X10_laysRests_j107 g_X10_restPokes
    rw [show rF s 0 39 = z.2.2.2 from h39]
    by_cases q : z.2.2.2 = -1
    · rw [if_pos q, if_pos q]
      obtain ⟨w, g1, g2⟩ := m_restPokes (F := F) hr hn n8 hG.2.1 hF (n - l') l' _ _ _ s hs rfl hl' F (by omega)
      rw [g1, ob_i, ob_i]
      exact ⟨w, rfl, g2⟩
    · rw [if_neg q, if_neg q]
      obtain ⟨p, hp, ep⟩ := hput.resolve_left q
      have hs2 := qS_33 (R' := stR R (lkA (Pm u r) m l R A) p) hs
      obtain ⟨w, g1, g2⟩ := m_restPokes (F := F) hr hn n8 hG.2.1 hF (n - l') l' _ _ _ _ hs2 rfl hl' F (by omega)
      rw [ep, m_restsOn hp hF, ob_i, hs.2.2.2.2.1, hs.2.2.2.2.2.1, g1, ob_i, ob_i, tnn (by omega)]
      exact ⟨w, rfl, g2⟩
  rw [e38]
  rcases htk with q | ⟨q1, q2⟩
  · rw [if_pos q, if_pos q]
    exact fin _ l i3 e39 s40
  · have hlt := htake q1
    rw [if_neg q2, if_neg q2, lt1_i, show rF (sTp (rw_ v 34 (lkA (Pm u r) m l R A)) 31 z) 0 42 = nI l from s40.2.2.1, nI_1]
    exact fin _ (l + 1) hlt e39 (qS_42 s40)
/-- the table of rests at the time t -/
def rsR (P : Prg) (L : Lg) (n : Nat) (R A : Nat → Int32) : Nat → (Nat → Int32) × (Nat → Int32)
  | 0 => rpk L n n zrow 0 R A
  | t + 1 => rsN P L n (rp P L n t).1 (rp P L n t).2 (rsR P L n R A t).1 (rsR P L n R A t).2
theorem m_restsl {F r n T x : Nat} {u : rg_U} {R A : Nat → Int32} (hr : r < 5) (hn : u.2.1 15 r = nI n) (hG : okG (Pm u r) (Lm u r) n T) (hx : x ≤ T) (hF : 10000 < F) : ∀ (f t : Nat) (v : rg_U), t + f = x → qS u v r (rp (Pm u r) (Lm u r) n t).1 (rp (Pm u r) (Lm u r) n t).2 (rsR (Pm u r) (Lm u r) n R A t).1 (rsR (Pm u r) (Lm u r) n R A t).2 → ∀ G, f < G → ∃ w, lp (fun (s : rg_U) => g_X10_laysRests_l44 F (nI r) (nI x) s) G v = some w ∧ qS u w r (rp (Pm u r) (Lm u r) n x).1 (rp (Pm u r) (Lm u r) n x).2 (rsR (Pm u r) (Lm u r) n R A x).1 (rsR (Pm u r) (Lm u r) n R A x).2
  | f, t, v, hf, h, 0, hG => by omega
  | 0, t, v, hf, h, G + 1, hGG => by
    have e : t = x := by omega
    subst e
    have hT := hG.2.2.2.1
    refine ⟨v, lp_r ?_, h⟩
    unfold g_X10_laysRests_l44
    rw [ck_t (show inb 133 134 by decide), show rA v 31 133 = nI t from (congrFun h.2.2.2.1 133).trans (rp_ok hG t hx).2.1, if_pos (nI_le (Nat.le_refl _) (by omega))]
  | f + 1, t, v, hf, h, G + 1, hGG => by
    obtain ⟨w, e1, e2⟩ := m_restStep (F := F) hr hn hG h (show t < x by omega) hx hF
    rw [lp_l (body := fun (s : rg_U) => g_X10_laysRests_l44 F (nI r) (nI x) s) e1]
    exact m_restsl hr hn hG hx hF f (t + 1) w (by omega) e2 G (by omega)
end W_43
section W_44
-- 97zd.rests
theorem m_laysRests {F K W r x : Nat} {u : rg_U} (h : okM u K W) (ha : act u K r) (hx : x ≤ Tr u r) (hF : 10000 < F) : ∃ w, g_X10_laysRests F (nI r) (nI x) u = some w ∧ coreEq u w ∧ okM w K W ∧ w.2.1 33 = (rsR (Pm u r) (Lm u r) (nr u r) (fun i => if i < 4760 then 0 else u.2.1 33 i) (u.2.1 34) x).1 := by
  have hK := h.1.1.2.1
  have hr := act5 hK ha
  have hro := h.1.2.2.2.2.1 r ha
  have hG := hro.2.2.2.2.2.2.1.1
  have n8 := hG.2.2.1
  obtain ⟨w, e, w1, w2, w3⟩ := lp_ex (body := fun (s : Int32 × rg_U) => g_X10_laysRests_l2 F (nI r) (nI x) s.1 s.2) (P := fun k s => ∃ m, k + m = 4760 ∧ s.1 = nI m ∧ s.2.1 = u.1 ∧ s.2.2.2 = u.2.2 ∧ ∀ j i, s.2.2.1 j i = if j = 33 ∧ i < m then 0 else u.2.1 j i) (R := fun w => w.1 = u.1 ∧ w.2.2 = u.2.2 ∧ ∀ j i, w.2.1 j i = if j = 33 ∧ i < 4760 then 0 else u.2.1 j i) (by
    rintro k ⟨s1, s2⟩ ⟨m, hm, e1, e2, e3, hv⟩
    dsimp only at e1 e2 e3 hv
    subst e1
    unfold g_X10_laysRests_l2
    dsimp only
    by_cases q : m = 4760
    · right
      subst q
      exact ⟨s2, if_pos (by decide), e2, e3, hv⟩
    · left
      rw [if_neg (show ¬ (4760 : Int32) ≤ nI m from nI_ge (a := m) (b := 4760) (by omega) (by decide)), ck_t (inb_nI (by omega) (by decide)), lt1_i, sA_nI (by omega), nI_1]
      refine ⟨_, k - 1, rfl, by omega, m + 1, by omega, rfl, e2, e3, fun j i => ?_⟩
      rw [R_at, hv j i]
      by_cases z : j = 33 ∧ i = m
      · rw [if_pos z, if_pos (show j = 33 ∧ i < m + 1 by omega)]
      · rw [if_neg z]
        by_cases y : j = 33 ∧ i < m
        · rw [if_pos y, if_pos (show j = 33 ∧ i < m + 1 by omega)]
        · rw [if_neg y, if_neg (show ¬ (j = 33 ∧ i < m + 1) by omega)]) F 4760 ((0 : Int32), u) (by omega) ⟨0, rfl, rfl, rfl, rfl, fun j i => by rw [if_neg (by omega)]⟩
  unfold g_X10_laysRests
  rw [e, ob_i, lt1_i, lt1_i]
  obtain ⟨v, c1, c2, c3⟩ := m_clears (F := F) (o := 31) (u := sF (sF w 0 41 (nI r)) 0 42 0) (by omega)
  rw [c1, ob_i]
  have q0 : qS u v r zrow 0 (fun i => if i < 4760 then 0 else u.2.1 33 i) (u.2.1 34) := by
    have hv1 : v.1 = upd (upd w.1 41 (nI r)) 42 0 := c2.1
    refine ⟨fun k h1 h2 h3 h4 h5 => by rw [hv1, pk_un h5, pk_un h4, w1], by rw [hv1, pk_un (by decide), pk_us], by rw [hv1, pk_us]; rfl, ?_, ?_, ?_, fun j h1 h2 h3 => ?_⟩
    · funext i
      rw [c3]
      by_cases z : i < 134
      · rw [if_pos ⟨rfl, z⟩]; rfl
      · rw [if_neg (fun y => z y.2)]
        show w.2.1 31 i = 0
        rw [w3, if_neg (fun y => absurd y.1 (by decide))]
        exact h.2.2.2.2.1 i (by omega)
    · funext i
      rw [c3, if_neg (fun y => absurd y.1 (by decide))]
      show w.2.1 33 i = _
      rw [w3]
      by_cases z : i < 4760
      · rw [if_pos ⟨rfl, z⟩, if_pos z]
      · rw [if_neg (fun y => z y.2), if_neg z]
    · funext i
      rw [c3, if_neg (fun y => absurd y.1 (by decide))]
      show w.2.1 34 i = _
      rw [w3, if_neg (fun y => absurd y.1 (by decide))]
    · funext i
      rw [c3, if_neg (fun y => h1 y.1)]
      show w.2.1 j i = _
      rw [w3, if_neg (fun y => h2 y.1)]
  obtain ⟨v2, d1, d2⟩ := m_restPokes (F := F) hr hro.1 n8 hG.2.1 hF (nr u r - 0) 0 _ _ _ v q0 rfl (Nat.zero_le _) F (by omega)
  unfold g_X10_restPokes
  rw [d1, ob_i, ob_i]
  obtain ⟨v3, f1, f2⟩ := m_restsl (F := F) (R := fun i => if i < 4760 then 0 else u.2.1 33 i) (A := u.2.1 34) hr hro.1 hG hx hF x 0 v2 (by omega) d2 F (by have := Tr3 h.1 ha; omega)
  rw [f1, ob_i]
  obtain ⟨a1, a2, a3, a4, a5, a6, a7⟩ := f2
  have hc : coreEq u v3 := ⟨fun j hj => a7 j (by omega) (by omega) (by omega), fun k hk => a1 k (by omega) (by omega) (by omega) (by omega) (by omega)⟩
  refine ⟨v3, rfl, hc, ⟨core_eq hc h.1, ?_⟩, a5⟩
  exact simM_c (u := sX u 0 0 0 (nI r) (nI (rpm u r x).2) (rpm u r x).1) (u' := v3) (fun j h1 h2 h3 => by rw [sX_An (by omega)]; exact a7 j (by omega) (by omega) (by omega)) (by rw [sX_A]; exact a4) (by rw [sX_An (by decide)]; exact a7 37 (by decide) (by decide) (by decide)) (by rw [a2]; exact sX_41.symm) (by rw [a3]; exact sX_42.symm) (simM_lay h.1 h.2 ha hx)
def rbt (R : Nat → Int32) (p k : Nat) : Int32 := if (dx_shr (R (119 * p + k / 32)) (nI k &&& 31) &&& 1) = 1 then 1 else 0
theorem m_bit {F p k : Nat} {w : rg_U} (hp : p < 40) (hk : k < 3808) : g_X10_restsOnBit F (nI p) (nI k) w = some (rbt (w.2.1 33) p k) := by
  unfold g_X10_restsOnBit rbt
  rw [shr5 (by omega), show (119 : Int32) * nI p + nI (k / 32) = nI (119 * p + k / 32) by rw [show (119 : Int32) * nI p = nI (119 * p) from pk_mul 119 _, nI_add], ck_t (inb_nI (by omega) (by decide)), rA_nI (by omega)]
  by_cases q : (dx_shr (w.2.1 33 (119 * p + k / 32)) (nI k &&& 31) &&& 1) = 1
  · rw [if_pos q, if_pos q]
  · rw [if_neg q, if_neg q]
def rsF (B : Nat → Int32) (x : Int32) : Nat → Nat → Nat → Nat ⊕ Nat
  | 0, c, _ => .inr c
  | f + 1, c, k => if B k = 0 then rsF B x f c (k + 1) else if nI c = x then .inl k else rsF B x f (c + 1) (k + 1)
theorem m_restsw {F p t : Nat} {z : Int32} {w : rg_U} (hp : p < 40) (ht : t ≤ 3000) : ∀ (f c k : Nat), f + k = t → ∀ G, f < G → lp (fun (s : Int32 × Int32) => g_X10_rests_l33 F (nI t) (nI p) z w s.1 s.2) G (nI c, nI k) = some (match rsF (rbt (w.2.1 33) p) z f c k with | .inl j => Sum.inl (nI j) | .inr c => Sum.inr (nI c))
  | f, c, k, hf, 0, hG => by omega
  | 0, c, k, hf, G + 1, hG => by
    refine lp_r ?_
    unfold g_X10_rests_l33
    dsimp only
    rw [if_pos (nI_le (by omega) (by omega))]
    rfl
  | f + 1, c, k, hf, G + 1, hG => by
    have hb : g_X10_rests_l33 F (nI t) (nI p) z w (nI c) (nI k) = if rbt (w.2.1 33) p k = 0 then some (.inl (nI c, nI (k + 1))) else if nI c = z then some (.inr (Sum.inl (nI k))) else some (.inl (nI (c + 1), nI (k + 1))) := by
      unfold g_X10_rests_l33 g_X10_rests_j64
      rw [if_neg (nI_ge (by omega) (by omega)), m_bit hp (by omega), ob_i, nI_1, nI_1]
    unfold rsF
    by_cases q : rbt (w.2.1 33) p k = 0
    · rw [if_pos q] at hb
      rw [lp_l (body := fun (s : Int32 × Int32) => g_X10_rests_l33 F (nI t) (nI p) z w s.1 s.2) (s := (nI c, nI k)) hb, if_pos q]
      exact m_restsw hp ht f c (k + 1) (by omega) G (by omega)
    · rw [if_neg q] at hb
      rw [if_neg q]
      by_cases y : nI c = z
      · rw [if_pos y] at hb
        rw [lp_r (body := fun (s : Int32 × Int32) => g_X10_rests_l33 F (nI t) (nI p) z w s.1 s.2) (s := (nI c, nI k)) hb, if_pos y]
      · rw [if_neg y] at hb
        rw [lp_l (body := fun (s : Int32 × Int32) => g_X10_rests_l33 F (nI t) (nI p) z w s.1 s.2) (s := (nI c, nI k)) hb, if_neg y]
        exact m_restsw hp ht f (c + 1) (k + 1) (by omega) G (by omega)
/-- the bits of rests of run r at the time t -/
def rsB (u : rg_U) (r t p k : Nat) : Int32 := rbt (rsR (Pm u r) (Lm u r) (nr u r) (fun i => if i < 4760 then 0 else u.2.1 33 i) (u.2.1 34) t).1 p k
def reA (u : rg_U) (r t p : Nat) (z : Int32) : Int32 := match rsF (rsB u r t p) z t 0 0 with
  | .inl j => nI j
  | .inr c => if z = -1 then nI c else -1
theorem m_rests {F K W : Nat} {x y z : Int32} {u : rg_U} (h : okM u K W) (hF : 10000 < F) : (¬ (isTm u x ∧ ¬ g_X10_isPlace y = 0) ∧ g_X10_rests F x y z u = some (-2, u)) ∨ ∃ t p w, act u K (aR u) ∧ u.2.1 5 (aR u) = 1 ∧ t ≤ Tr u (aR u) ∧ x = nI t ∧ p < 40 ∧ y = nI p ∧ g_X10_rests F x y z u = some (reA u (aR u) t p z, w) ∧ okM w K W ∧ coreEq u w := by
  unfold g_X10_rests
  rcases m_time (F := F) (x := x) h.1 with ⟨q1, q2⟩ | ⟨t, q1, q2, q3, q4, rfl⟩
  · rw [q1, ob_i, if_pos rfl]
    exact Or.inl ⟨fun w => q2 w.1, rfl⟩
  rw [q1, ob_i, if_neg one_n0]
  by_cases qp : g_X10_isPlace y = 0
  · rw [if_pos qp]; exact Or.inl ⟨fun w => w.2 qp, rfl⟩
  rw [if_neg qp, m_ask h.1, ob_i]
  obtain ⟨p, hp, rfl⟩ := isPl qp
  have hT3 := Tr3 h.1 q2
  obtain ⟨w, e1, e2, e3, e4⟩ := m_laysRests h q2 q4 hF
  have e5 := m_restsw (F := F) (p := p) (t := t) (z := z) (w := w) hp (by omega) t 0 0 rfl F (by omega)
  rw [e1, ob_i, show lp (fun (s : Int32 × Int32) => g_X10_rests_l33 F (nI t) (nI p) z w s.1 s.2) F ((0 : Int32), (0 : Int32)) = _ from e5, ob_i]
  refine Or.inr ⟨t, p, w, q2, q3, q4, rfl, hp, rfl, ?_, e3, e2⟩
  unfold reA
  rw [show rsB u (aR u) t p = rbt (w.2.1 33) p by rw [e4]; rfl]
  cases rsF (rbt (w.2.1 33) p) z t 0 0 with
  | inl j => rfl
  | inr c =>
    show (if z = -1 then some (nI c, w) else some (-1, w)) = some ((if z = -1 then nI c else -1), w)
    by_cases z1 : z = -1
    · rw [if_pos z1, if_pos z1]
    · rw [if_neg z1, if_neg z1]
def hgB (B : Nat → Int32) (a : Nat) : Nat → Int32
  | 0 => 0
  | k + 1 => hgB B a k ||| (if B (a + k) = 0 then 0 else dx_shl 1 (nI k))
theorem m_hangl {F a n e : Nat} {w : rg_U} (han : a + n ≤ 40) (he : e < 800) (hF : 10000 < F) : g_X10_hangs_j77 F (nI e) 0 (nI a) (nI n) w = some (hgB (fun p => rbt (w.2.1 33) p (3008 + e)) a n, w) := by
  have h := lp_up (body := fun (s : Int32 × Int32) => g_X10_hangs_l82 F (nI e) (nI a) (nI n) w s.1 s.2) (fun k => (hgB (fun p => rbt (w.2.1 33) p (3008 + e)) a k, nI k)) n (hgB (fun p => rbt (w.2.1 33) p (3008 + e)) a n) (fun k hk => by
    show g_X10_hangs_l82 F (nI e) (nI a) (nI n) w (hgB (fun p => rbt (w.2.1 33) p (3008 + e)) a k) (nI k) = _
    unfold g_X10_hangs_l82 g_X10_hangs_j116
    rw [if_neg (nI_ge hk (by omega)), nI_add, show (3008 : Int32) + nI e = nI (3008 + e) from nI_add 3008 e, m_bit (by omega) (by omega), ob_i, nI_1]
    show _ = some (Sum.inl (hgB (fun p => rbt (w.2.1 33) p (3008 + e)) a k ||| (if rbt (w.2.1 33) (a + k) (3008 + e) = 0 then 0 else dx_shl 1 (nI k)), nI (k + 1)))
    by_cases z : rbt (w.2.1 33) (a + k) (3008 + e) = 0
    · rw [if_pos z, if_pos z]
    · rw [if_neg z, if_neg z]) (by
    show g_X10_hangs_l82 F (nI e) (nI a) (nI n) w _ (nI n) = _
    unfold g_X10_hangs_l82
    rw [if_pos (nI_le (Nat.le_refl _) (by omega))]) F 0 (Nat.zero_le _) (by omega)
  unfold g_X10_hangs_j77
  rw [show lp (fun (s : Int32 × Int32) => g_X10_hangs_l82 F (nI e) (nI a) (nI n) w s.1 s.2) F ((0 : Int32), (0 : Int32)) = _ from h, ob_i]
theorem m_hangs {F K W : Nat} {x y z : Int32} {u : rg_U} (h : okM u K W) (hF : 10000 < F) : (g_X10_hangs F x y z u = some (-1000001, u) ∧ ¬ (isTm u y ∧ (∃ e, e < nr u (aR u) ∧ x = nI e) ∧ ¬ g_X10_isIn z 0 1 = 0)) ∨ ∃ t e w, act u K (aR u) ∧ u.2.1 5 (aR u) = 1 ∧ t ≤ Tr u (aR u) ∧ y = nI t ∧ e < nr u (aR u) ∧ x = nI e ∧ ¬ g_X10_isIn z 0 1 = 0 ∧ g_X10_hangs F x y z u = some ((if z = 0 then hgB (fun p => rsB u (aR u) t p (3008 + e)) 0 8 else hgB (fun p => rsB u (aR u) t p (3008 + e)) 8 32), w) ∧ okM w K W ∧ coreEq u w := by
  obtain ⟨h5, -⟩ := aR_ok h.1
  unfold g_X10_hangs
  rw [m_ask h.1, ob_i]
  rcases m_time (F := F) (x := y) h.1 with ⟨q1, q2⟩ | ⟨t, q1, q2, q3, q4, rfl⟩
  · rw [q1, ob_i, if_pos rfl]
    exact Or.inl ⟨rfl, fun w => q2 w.1⟩
  have hro := h.1.2.2.2.2.1 _ q2
  have n8 := hro.2.2.2.2.2.2.1.1.2.2.1
  rw [q1, ob_i, if_neg one_n0, ck_t (inb_nI h5 (by decide)), rA_nI (by omega), hro.1]
  by_cases qe : g_X10_isIn x 0 (nI (nr u (aR u)) - 1) = 0
  · rw [if_pos qe]
    refine Or.inl ⟨rfl, fun ⟨_, ⟨e, he, ex⟩, _⟩ => ?_⟩
    rw [ex, show nI (nr u (aR u)) - 1 = nI (nr u (aR u) - 1) from nI_sub (b := 1) (by omega)] at qe
    exact in_nI (a := 0) (by omega) (by omega) (by omega) qe
  rw [if_neg qe]
  obtain ⟨e, he, rfl⟩ := in_bel qe (by omega)
  by_cases qz : g_X10_isIn z 0 1 = 0
  · rw [if_pos qz]
    exact Or.inl ⟨rfl, fun w => w.2.2 qz⟩
  rw [if_neg qz]
  obtain ⟨w, e1, e2, e3, e4⟩ := m_laysRests h q2 q4 hF
  rw [e1, ob_i]
  refine Or.inr ⟨t, e, w, q2, q3, q4, rfl, he, rfl, qz, ?_, e3, e2⟩
  rw [show (fun p => rsB u (aR u) t p (3008 + e)) = fun p => rbt (w.2.1 33) p (3008 + e) by rw [e4]; rfl]
  unfold g_X10_hangs_j64
  by_cases z0 : z = 0
  · rw [if_pos z0, if_pos z0, if_pos z0]
    exact m_hangl (a := 0) (n := 8) (by omega) (by omega) hF
  · rw [if_neg z0, if_neg z0, if_neg z0]
    exact m_hangl (a := 8) (n := 32) (by omega) (by omega) hF
end W_44
section W_45
-- 97ze.run
/-! run of the reference -/
def wcS (u : rg_U) : Nat → Int32
  | 0 => 0
  | p + 1 => wcS u p + (if u.2.1 30 p = 0 then 0 else u.2.1 28 (80 + p))
theorem m_wch {F : Nat} {u : rg_U} (hF : 10000 < F) : g_X10_watchedChanges F u = some (wcS u 40) := by
  have h := lp_up (body := fun (s : Int32 × Int32) => g_X10_watchedChanges_l4 F u s.1 s.2) (fun k => (wcS u k, nI k)) 40 (wcS u 40) (fun k hk => by
    show g_X10_watchedChanges_l4 F u (wcS u k) (nI k) = _
    unfold g_X10_watchedChanges_l4 g_X10_watchedChanges_j33
    rw [if_neg (show ¬ (40 : Int32) ≤ nI k from nI_ge (a := k) (b := 40) (by omega) (by decide)), c80, ck_t (inb_nI (by omega) (by decide)), ck_t (inb_nI (by omega) (by decide)), rA_nI (by omega), rA_nI (by omega), nI_1]
    show _ = some (Sum.inl (wcS u k + (if u.2.1 30 k = 0 then 0 else u.2.1 28 (80 + k)), nI (k + 1)))
    by_cases z : u.2.1 30 k = 0
    · rw [if_pos z, if_pos z]
    · rw [if_neg z, if_neg z]) (by
    show g_X10_watchedChanges_l4 F u _ (nI 40) = _
    unfold g_X10_watchedChanges_l4
    rw [if_pos (by decide)]) F 0 (Nat.zero_le _) (by omega)
  unfold g_X10_watchedChanges
  rw [show lp (fun (s : Int32 × Int32) => g_X10_watchedChanges_l4 F u s.1 s.2) F ((0 : Int32), (0 : Int32)) = _ from h, ob_i]
/-- one turn of run, as it is done -/
def stD (F : Nat) (u u1 : rg_U) (W W1 : Nat) : Prop := ∃ v n', goT F u = some v ∧ tkD u v W W1 n' ∧ goD u u1 v n' (mstep (Pm u 4) (u.2.1 28) ((Lm v 4).2.2.1 (nr u 4)) (nI (nr u 4)))
/-- a turn of run is taken -/
def rnG (u : rg_U) (W : Nat) (c : Int32) : Prop := stM u W = 0 ∧ Tr u 4 < 3000 ∧ wcS u 40 = c
def rnR (F : Nat) (c : Int32) : Nat → rg_U → Nat → rg_U → Nat → Prop
  | 0, u, W, u', W' => u' = u ∧ W' = W
  | k + 1, u, W, u', W' => ∃ u1 W1, rnG u W c ∧ stD F u u1 W W1 ∧ rnR F c k u1 W1 u' W'
theorem m_runl {F K n : Nat} {c : Int32} (hn : n ≤ 500) (hF : 10000 < F) : ∀ (f k W : Nat) (u : rg_U), f + k = n → okM u K W → u.2.1 5 4 = 1 → ∀ G, f < G → ∃ j u' W', lp (fun (s : Int32 × rg_U) => g_X10_run_l29 F (nI n) c s.1 s.2) G (nI k, u) = some (nI (k + j), u') ∧ j ≤ f ∧ okM u' K W' ∧ u'.2.1 5 4 = 1 ∧ rnR F c j u W u' W' ∧ (j = f ∨ ¬ rnG u' W' c)
  | f, k, W, u, hf, h, h1, 0, hG => by omega
  | 0, k, W, u, hf, h, h1, G + 1, hG => by
    refine ⟨0, u, W, lp_r ?_, Nat.le_refl _, h, h1, ⟨rfl, rfl⟩, Or.inl rfl⟩
    unfold g_X10_run_l29
    dsimp only
    rw [if_pos (nI_le (by omega) (by omega))]
    rfl
  | f + 1, k, W, u, hf, h, h1, G + 1, hG => by
    have hro := h.1.2.2.2.2.1 4 (Or.inr ⟨rfl, h1⟩)
    have hT3 := Tr3 h.1 (Or.inr ⟨rfl, h1⟩)
    have stop : ¬ rnG u W c → g_X10_run_l29 F (nI n) c (nI k) u = some (.inr (nI k, u)) → ∃ j u' W', lp (fun (s : Int32 × rg_U) => g_X10_run_l29 F (nI n) c s.1 s.2) (G + 1) (nI k, u) = some (nI (k + j), u') ∧ j ≤ f + 1 ∧ okM u' K W' ∧ u'.2.1 5 4 = 1 ∧ rnR F c j u W u' W' ∧ (j = f + 1 ∨ ¬ rnG u' W' c) := fun q e => ⟨0, u, W, lp_r e, Nat.zero_le _, h, h1, ⟨rfl, rfl⟩, Or.inr q⟩
    have hb : g_X10_run_l29 F (nI n) c (nI k) u = if stM u W = 0 then (if 3000 ≤ nI (Tr u 4) then some (.inr (nI k, u)) else if wcS u 40 = c then ob (g_X10_goesOn F u) (fun r15 => some (.inl (nI (k + 1), r15))) else some (.inr (nI k, u))) else some (.inr (nI k, u)) := by
      unfold g_X10_run_l29
      rw [if_neg (nI_ge (by omega) (by omega)), m_status h.1 h1, ob_i, ck_t (show inb 4 5 by decide), show rA u 21 4 = nI (Tr u 4) from hro.2.1, m_wch hF, ob_i, nI_1]
    by_cases q1 : stM u W = 0
    · rw [if_pos q1] at hb
      by_cases q2 : Tr u 4 < 3000
      · rw [if_neg (show ¬ (3000 : Int32) ≤ nI (Tr u 4) from nI_ge (a := Tr u 4) (b := 3000) q2 (by decide))] at hb
        by_cases q3 : wcS u 40 = c
        · rw [if_pos q3] at hb
          obtain ⟨u1, v, W1, n', e1, e2, e3, e4, e5, e6⟩ := m_goesOn h h1 q1 q2 hF
          rw [e1, ob_i] at hb
          obtain ⟨j, u', W', g1, g2, g3, g4, g5, g6⟩ := m_runl (F := F) (K := K) (c := c) hn hF f (k + 1) W1 u1 (by omega) e2 e3 G (by omega)
          refine ⟨j + 1, u', W', ?_, by omega, g3, g4, ⟨u1, W1, ⟨q1, q2, q3⟩, ⟨v, n', e4, e5, e6⟩, g5⟩, g6.imp (fun z => by omega) id⟩
          rw [lp_l (body := fun (s : Int32 × rg_U) => g_X10_run_l29 F (nI n) c s.1 s.2) (s := (nI k, u)) hb, g1, show k + 1 + j = k + (j + 1) by omega]
        · rw [if_neg q3] at hb
          exact stop (fun z => q3 z.2.2) hb
      · rw [if_pos (show (3000 : Int32) ≤ nI (Tr u 4) from nI_le (a := 3000) (by omega) (by omega))] at hb
        exact stop (fun z => q2 z.2.1) hb
    · rw [if_neg q1] at hb
      exact stop (fun z => q1 z.1) hb
theorem m_run {F K W : Nat} {x : Int32} {u : rg_U} (h : okM u K W) (hF : 10000 < F) : (¬ (u.2.1 5 4 = 1 ∧ ¬ g_X10_isIn x 1 500 = 0) ∧ g_X10_run F x u = some (-1, u)) ∨ ∃ n j u' W', u.2.1 5 4 = 1 ∧ 1 ≤ n ∧ n ≤ 500 ∧ x = nI n ∧ g_X10_run F x u = some (nI j, u') ∧ j ≤ n ∧ okM u' K W' ∧ u'.2.1 5 4 = 1 ∧ rnR F (wcS u 40) j u W u' W' ∧ (j = n ∨ ¬ rnG u' W' (wcS u 40)) := by
  unfold g_X10_run
  rw [ck_t (show inb 4 5 by decide), show rA u 5 4 = u.2.1 5 4 from rfl]
  rcases h.1.2.1.1 with q | q
  · rw [if_pos q]
    refine Or.inl ⟨fun z => ?_, rfl⟩
    have := z.1
    rw [q] at this
    exact absurd this (by decide)
  rw [if_neg (by rw [q]; decide)]
  by_cases z : g_X10_isIn x 1 500 = 0
  · rw [if_pos z]; exact Or.inl ⟨fun w => w.2 z, rfl⟩
  obtain ⟨n, rfl, n1, n2⟩ := in_nat z (by decide)
  have e1 : (1 : Int32).toInt = 1 := rfl
  have e2 : (500 : Int32).toInt = 500 := rfl
  obtain ⟨j, u', W', g1, g2, g3, g4, g5, g6⟩ := m_runl (F := F) (K := K) (c := wcS u 40) (n := n) (by omega) hF n 0 W u (by omega) h q F (by omega)
  rw [Nat.zero_add] at g1
  rw [if_neg z, m_wch hF, ob_i, show lp (fun (s : Int32 × rg_U) => g_X10_run_l29 F (nI n) (wcS u 40) s.1 s.2) F ((0 : Int32), u) = _ from g1, ob_i]
  exact Or.inr ⟨n, j, u', W', q, by omega, by omega, rfl, rfl, g2, g3, g4, g5, g6⟩
end W_45
section W_46
-- 97zf.all
/-! the reference: every call returns, in every state that calls lead to -/
def okA (u : rg_U) : Prop := ∃ K W, okM u K W
def SM (g : rg_U → Option (Int32 × rg_U)) : Prop := ∀ u, okA u → ∃ z, g u = some z ∧ okA z.2
theorem okA_fr {u : rg_U} (f : ∀ s, u.1 s = (mu_none 0).1 s) (b : ∀ j i, j ≠ 1 → u.2.1 j i = 0) (c : ∀ i, i < 64 → u.2.1 1 i = -1) : okA u := by
  have na : ∀ r, ¬ act u 0 r := fun r hr => by
    rcases hr with z | z
    · omega
    · rw [b 5 4 (by decide)] at z
      exact absurd z.2 (by decide)
  have n5 : ¬ u.2.1 5 4 = 1 := by rw [b 5 4 (by decide)]; decide
  refine ⟨0, 0, ⟨⟨by rw [f]; rfl, by omega, Or.inl (by rw [f]; rfl)⟩, ⟨Or.inl (b 5 4 (by decide)), fun z => by omega, fun r z => by omega⟩, fun k hk => ?_, ⟨8, 2, by rw [f]; rfl, by rw [f]; rfl, by omega, by omega, by omega, by omega⟩, fun r hr => absurd hr (na r), fun z => absurd z n5, ⟨by rw [f]; rfl, by omega, fun z => absurd z n5⟩, fun p _ => Or.inl (b 30 p (by decide))⟩, simM_none (by omega) (by rw [f]; rfl) (fun i _ => b 28 i (by decide)) (fun i _ => b 31 i (by decide)) (fun i _ => b 37 i (by decide))⟩
  show ¬ g_X10_isFine (u.2.1 1 k) (u.2.1 2 k) (u.2.1 3 k) (u.2.1 4 k) = 0
  rw [c k hk]
  unfold g_X10_isFine
  rw [if_pos rfl]
  decide
theorem fr_b {j i : Nat} : (mu_none 0).2.1 j i = 0 := rfl
theorem okA_start : okA uL_RunsBackModel := by
  have f : ∀ s, uL_RunsBackModel.1 s = (mu_none 0).1 s := fun s => by
    show (mu_none 64).1 _ = _
    rw [mu_none_1 64]
  have a : ∀ j i, uL_RunsBackModel.2.1 j i = if j = 1 ∧ i < 64 then -1 else (mu_none 0).2.1 j i := mu_none_a 64 (by decide)
  refine okA_fr f (fun j i hj => ?_) (fun i hi => ?_)
  · rw [a, if_neg (fun z => hj z.1), fr_b]
  · rw [a, if_pos ⟨rfl, hi⟩]
theorem sm_lf {g : rg_U → Option Int32} (h : ∀ u, okA u → ∃ r, g u = some r) : SM (lf1 g) := fun u hu => by
  obtain ⟨r, e⟩ := h u hu
  exact ⟨(r, u), by unfold lf1; rw [e, ob_i], hu⟩
theorem sm_code {F : Nat} {a1 a2 a3 a4 a5 : Int32} : SM (g_X10_code F a1 a2 a3 a4 a5) := fun u ⟨K, W, h⟩ => by
  rcases m_code (F := F) (a1 := a1) (a2 := a2) (a3 := a3) (a4 := a4) (a5 := a5) h with q | ⟨k, -, -, -, e, q⟩
  · exact ⟨_, q.2, K, W, h⟩
  · exact ⟨_, e, K, W, q⟩
theorem sm_spacing {F : Nat} {x y : Int32} : SM (g_X10_spacing F x y) := fun u ⟨K, W, h⟩ => by
  rcases m_spacing (F := F) (x := x) (y := y) h with q | q
  · exact ⟨_, q.2, K, W, h⟩
  · exact ⟨_, q.2.1, K, W, q.2.2⟩
theorem sm_begin {F : Nat} (hF : 10000 < F) : SM (g_X10_begin F) := fun u ⟨K, W, h⟩ => by
  obtain ⟨u', e, q, -⟩ := m_beginM (F := F) h hF
  exact ⟨_, e, K, 0, q⟩
theorem sm_give {F : Nat} {x : Int32} : SM (g_X10_give F x) := fun u ⟨K, W, h⟩ => by
  rcases m_give (F := F) (v := x) h with q | q
  · exact ⟨_, q.2, K, W, h⟩
  · exact ⟨_, q.2.2.1, K, W + 1, q.2.2.2⟩
theorem sm_seed {F : Nat} {x : Int32} : SM (g_X10_seed F x) := fun u ⟨K, W, h⟩ => ⟨_, (m_seed h).1, K, W, (m_seed (F := F) h).2⟩
theorem sm_poke {F : Nat} {x y z : Int32} : SM (g_X10_poke F x y z) := fun u ⟨K, W, h⟩ => by
  rcases m_poke (F := F) (x := x) (s := y) (num := z) h with q | ⟨p, -, -, -, -, -, e, q⟩
  · exact ⟨_, q.2, K, W, h⟩
  · exact ⟨_, e, K, W, q⟩
theorem sm_run {F : Nat} {x : Int32} (hF : 10000 < F) : SM (g_X10_run F x) := fun u ⟨K, W, h⟩ => by
  rcases m_run (F := F) (x := x) h hF with q | ⟨n, j, u', W', -, -, -, -, e, -, q, -⟩
  · exact ⟨_, q.2, K, W, h⟩
  · exact ⟨_, e, K, W', q⟩
theorem sm_watch {F : Nat} {x y : Int32} (hy : y = 0 ∨ y = 1) : SM (g_X10_watch F x y) := fun u ⟨K, W, h⟩ => by
  rcases m_watch (F := F) (x := x) (y := y) h hy with q | ⟨p, -, -, q | q⟩
  · exact ⟨_, q.2, K, W, h⟩
  · exact ⟨_, q.2, K, W, h⟩
  · exact ⟨_, q.2.1, K, W, q.2.2⟩
theorem sm_back {F : Nat} {x : Int32} (hF : 10000 < F) : SM (g_X10_back F x) := fun u ⟨K, W, h⟩ => by
  rcases m_back (F := F) (x := x) h hF with q | ⟨t, u', W', C', -, -, -, e, q, -⟩
  · exact ⟨_, q.2.1, K, W, q.2.2⟩
  · exact ⟨_, e, K, W', q⟩
theorem sm_keep {F : Nat} (hF : 10000 < F) : SM (g_X10_keep F) := fun u ⟨K, W, h⟩ => by
  rcases m_keep (F := F) h hF with q | ⟨-, -, u', e, q, -⟩
  · exact ⟨_, q.2, K, W, h⟩
  · exact ⟨_, e, K + 1, W, q⟩
theorem sm_use {F : Nat} {x : Int32} : SM (g_X10_use F x) := fun u ⟨K, W, h⟩ => by
  rcases m_use (F := F) (x := x) h with q | q
  · exact ⟨_, q.2.1, K, W, q.2.2⟩
  · exact ⟨_, q.2, K, W, h⟩
theorem sm_at {F : Nat} {x y z : Int32} (hF : 10000 < F) : SM (g_X10_at F x y z) := fun u ⟨K, W, h⟩ => by
  rcases m_at (F := F) (x := x) (y := y) (z := z) h hF with q | ⟨t, p, u', -, -, -, -, -, -, -, e, q, -⟩
  · exact ⟨_, q.2.1, K, W, q.2.2⟩
  · exact ⟨_, e, K, W, q⟩
theorem sm_state {F : Nat} {x y : Int32} (hF : 10000 < F) : SM (g_X10_state F x y) := fun u ⟨K, W, h⟩ => by
  rcases m_state (F := F) (x := x) (y := y) h hF with q | ⟨t, u', -, -, -, -, -, e, q, -⟩
  · exact ⟨_, q.2.1, K, W, q.2.2⟩
  · exact ⟨_, e, K, W, q⟩
theorem sm_last {F : Nat} {x y : Int32} (hF : 10000 < F) : SM (g_X10_last F x y) := fun u ⟨K, W, h⟩ => by
  rcases m_last (F := F) (x := x) (y := y) h hF with q | ⟨t, p, u', -, -, -, -, -, -, e, q, -⟩
  · exact ⟨_, q.2.1, K, W, q.2.2⟩
  · exact ⟨_, e, K, W, q⟩
theorem sm_when {F : Nat} {x y s n : Int32} (hF : 10000 < F) : SM (g_X10_when F x y s n) := fun u ⟨K, W, h⟩ => by
  rcases m_when (F := F) (x := x) (y := y) (s := s) (n := n) h hF with q | ⟨t, p, u', -, -, -, -, -, -, -, e, q, -⟩
  · exact ⟨_, q.2.1, K, W, q.2.2⟩
  · exact ⟨_, e, K, W, q⟩
theorem sm_changed {F : Nat} {x y : Int32} (hF : 10000 < F) : SM (g_X10_changed F x y) := fun u ⟨K, W, h⟩ => by
  rcases m_changed (F := F) (x := x) (y := y) h hF with q | ⟨t, u', -, -, -, -, -, e, q, -⟩
  · exact ⟨_, q.2.1, K, W, q.2.2⟩
  · exact ⟨_, e, K, W, q⟩
theorem sm_watched {F : Nat} {x : Int32} (hF : 10000 < F) : SM (g_X10_watched F x) := fun u ⟨K, W, h⟩ => by
  rcases m_watched (F := F) (x := x) h hF with q | ⟨t, u', -, -, -, -, -, e, q, -⟩
  · exact ⟨_, q.2.1, K, W, q.2.2⟩
  · exact ⟨_, e, K, W, q⟩
theorem sm_rests {F : Nat} {x y z : Int32} (hF : 10000 < F) : SM (g_X10_rests F x y z) := fun u ⟨K, W, h⟩ => by
  rcases m_rests (F := F) (x := x) (y := y) (z := z) h hF with q | ⟨t, p, u', -, -, -, -, -, -, e, q, -⟩
  · exact ⟨_, q.2, K, W, h⟩
  · exact ⟨_, e, K, W, q⟩
theorem sm_hangs {F : Nat} {x y z : Int32} (hF : 10000 < F) : SM (g_X10_hangs F x y z) := fun u ⟨K, W, h⟩ => by
  rcases m_hangs (F := F) (x := x) (y := y) (z := z) h hF with q | ⟨t, p, u', -, -, -, -, -, -, -, e, q, -⟩
  · exact ⟨_, q.1, K, W, h⟩
  · exact ⟨_, e, K, W, q⟩
theorem sm_history {F : Nat} {x y z : Int32} (hF : 10000 < F) : SM (g_X10_history F x y z) := fun u ⟨K, W, h⟩ => by
  rcases m_history (F := F) (x := x) (y := y) (z := z) h hF with q | ⟨p, u', -, -, -, -, -, e, q, -⟩
  · exact ⟨_, q.2, K, W, h⟩
  · exact ⟨_, e, K, W, q⟩
theorem sm_done {F : Nat} {x y : Int32} (hF : 10000 < F) : SM (g_X10_done F x y) := fun u ⟨K, W, h⟩ => by
  rcases m_done (F := F) (x := x) (y := y) h hF with q | ⟨t, u', -, -, -, -, -, e, q, -⟩
  · exact ⟨_, q.2, K, W, h⟩
  · exact ⟨_, e, K, W, q⟩
theorem sm_call {F : Nat} {x y : Int32} : SM (lf1 (g_X10_call F x y)) := sm_lf fun u ⟨_, _, h⟩ => ⟨_, m_call h.1⟩
theorem sm_log {F : Nat} {x y : Int32} : SM (lf1 (g_X10_log F x y)) := sm_lf fun u ⟨_, _, h⟩ => ⟨_, m_log h.1⟩
theorem sm_held {F : Nat} {x y : Int32} (hF : 10000 < F) : SM (lf1 (g_X10_held F x y)) := sm_lf fun u ⟨_, _, h⟩ => ⟨_, m_held h.1 hF⟩
theorem sm_look {F : Nat} {x : Int32} (hF : 10000 < F) : SM (lf1 (g_X10_look F x)) := sm_lf fun u ⟨_, _, h⟩ => ⟨_, m_look h.1 hF⟩
theorem sm_would {F : Nat} {x y z : Int32} (hF : 10000 < F) : SM (lf1 (g_X10_would F x y z)) := sm_lf fun u _ => (would_all hF x y z u u).imp fun _ e => e.2
theorem sm_gap {F : Nat} {x y z : Int32} (hF : 10000 < F) : SM (lf1 (g_X10_gap F x y z)) := sm_lf fun u _ => (gap_all hF x y z u u).imp fun _ e => e.2
theorem sm_sparing {F : Nat} {x y z : Int32} (hF : 10000 < F) : SM (lf1 (g_X10_sparing F x y z)) := sm_lf fun u _ => (sparing_all hF x y z u u).imp fun _ e => e.2
theorem sm_align {F : Nat} {x y : Int32} (hF : 10000 < F) : SM (g_X10_align F x y) := fun u ⟨K, W, h⟩ => by
  rcases m_align (F := F) (x := x) (y := y) h hF with q | ⟨r1, r2, w, -, -, -, -, e, -, q⟩
  · exact ⟨_, q.2, K, W, h⟩
  · exact ⟨_, e, K, W, q⟩
theorem sm_pair {F : Nat} {x y z q : Int32} (hF : 10000 < F) : SM (g_X10_pair F x y z q) := fun u ⟨K, W, h⟩ => by
  rcases m_pair (F := F) (x := x) (y := y) (z := z) (q := q) h hF with ⟨w, e, g, -⟩ | ⟨r1, r2, k, a, b, w, -, -, -, -, -, -, -, -, e, g, -⟩
  · exact ⟨_, e, K, W, g⟩
  · exact ⟨_, e, K, W, g⟩
theorem sm_parts {F : Nat} {x y : Int32} (hF : 10000 < F) : SM (g_X10_parts F x y) := fun u ⟨K, W, h⟩ => by
  rcases m_parts (F := F) (x := x) (y := y) h hF with q | ⟨r1, r2, a, w, -, -, -, -, e, -, -, q⟩
  · exact ⟨_, q.2, K, W, h⟩
  · exact ⟨_, e, K, W, q⟩
end W_46
section W_47
-- 97zg.cls
/-! the class: its log, its calls, what waits outside -/
theorem c_logadd {F o n : Nat} {x1 x2 x3 x4 x5 : Int32} {u : rg_U} (hn : rF u o 5 = nI n) (h : n < 800) : g_X3_add F o x1 x2 x3 x4 x5 u = some (sF (rg_R (rg_R (rg_R (rg_R (rg_R u (o + 1) n x1) (o + 2) n x2) (o + 4) n x3) (o + 5) n x4) (o + 3) n x5) o 5 (nI (n + 1))) := by
  have e : ∀ (v : rg_U) (j : Nat) (x : Int32), rF v o 5 = nI n → rF (rg_R v j n x) o 5 = nI n := fun v j x h => h
  unfold g_X3_add
  rw [hn, if_neg (show ¬ nI n < 0 from nI_nlt (a := n) (b := 0) (by omega) (by omega)), if_neg (show ¬ (800 : Int32) ≤ nI n from nI_ge (a := n) (b := 800) h (by decide)), ck_t (inb_nI h (by decide)), lt1_i, sA_nI (by omega), e _ _ _ hn, ck_t (inb_nI h (by decide)), lt1_i, sA_nI (by omega), e _ _ _ (e _ _ _ hn), ck_t (inb_nI h (by decide)), lt1_i, sA_nI (by omega), e _ _ _ (e _ _ _ (e _ _ _ hn)), ck_t (inb_nI h (by decide)), lt1_i, sA_nI (by omega), e _ _ _ (e _ _ _ (e _ _ _ (e _ _ _ hn))), ck_t (inb_nI h (by decide)), lt1_i, sA_nI (by omega), e _ _ _ (e _ _ _ (e _ _ _ (e _ _ _ (e _ _ _ hn)))), lt1_i, nI_1]
theorem c_calladd {F o n : Nat} {x1 x2 x3 : Int32} {u : rg_U} (hn : rF u o 3 = nI n) (h : n < 100) : g_X1_add F o x1 x2 x3 u = some (sF (rg_R (rg_R (rg_R u (o + 1) n x1) (o + 2) n x2) (o + 3) n x3) o 3 (nI (n + 1))) := by
  have e : ∀ (v : rg_U) (j : Nat) (x : Int32), rF v o 3 = nI n → rF (rg_R v j n x) o 3 = nI n := fun v j x h => h
  unfold g_X1_add
  rw [hn, if_neg (show ¬ nI n < 0 from nI_nlt (a := n) (b := 0) (by omega) (by omega)), if_neg (show ¬ (100 : Int32) ≤ nI n from nI_ge (a := n) (b := 100) h (by decide)), ck_t (inb_nI h (by decide)), lt1_i, sA_nI (by omega), e _ _ _ hn, ck_t (inb_nI h (by decide)), lt1_i, sA_nI (by omega), e _ _ _ (e _ _ _ hn), ck_t (inb_nI h (by decide)), lt1_i, sA_nI (by omega), e _ _ _ (e _ _ _ (e _ _ _ hn)), lt1_i, nI_1]
theorem c_callfull {F o : Nat} {x1 x2 x3 : Int32} {u : rg_U} (hn : rF u o 3 = nI 100) : g_X1_add F o x1 x2 x3 u = some u := by
  unfold g_X1_add
  rw [hn, if_neg (by decide), if_pos (by decide)]
theorem c_logfull {F o n : Nat} {u : rg_U} (hn : rF u o 5 = nI n) (h : n ≤ 800) : g_X3_isFull F o u = some (if n = 800 then 1 else 0) := by
  unfold g_X3_isFull
  rw [hn]
  by_cases q : n = 800
  · rw [if_pos q, if_neg (show ¬ nI n < 800 from nI_nlt (a := n) (b := 800) (by omega) (by omega))]
  · rw [if_neg q, if_pos (show nI n < 800 from nI_lt (a := n) (b := 800) (by omega) (by decide))]
theorem c_has {F o n : Nat} {x : Int32} {u : rg_U} (hn : rF u o 5 = nI n) (h : n ≤ 800) : (g_X3_has F o x u = some 0 ∧ ¬ ∃ i, i < n ∧ x = nI i) ∨ ∃ i, g_X3_has F o x u = some 1 ∧ i < n ∧ x = nI i := by
  unfold g_X3_has
  rw [hn]
  by_cases q : x < 0
  · rw [if_pos q]
    refine Or.inl ⟨rfl, fun ⟨i, hi, e⟩ => ?_⟩
    rw [e] at q
    exact nI_nlt (a := i) (b := 0) (by omega) (by omega) q
  · rw [if_neg q]
    obtain ⟨k, hk, rfl⟩ := nI_of (x := x) q
    by_cases z : nI n ≤ nI k
    · rw [if_pos z]
      refine Or.inl ⟨rfl, fun ⟨i, hi, e⟩ => ?_⟩
      have := nI_inj (by omega) (by omega) e
      exact nI_ge (a := k) (b := n) (by omega) (by omega) z
    · rw [if_neg z]
      have hkn : k < n := by
        rcases Nat.lt_or_ge k n with y | y
        · exact y
        · exact absurd (nI_le y (by omega)) z
      rw [if_neg (show ¬ (800 : Int32) ≤ nI k from nI_ge (a := k) (b := 800) (by omega) (by decide))]
      exact Or.inr ⟨k, rfl, hkn, rfl⟩
end W_47
section W_48
-- 97zh.out
/-! the class: what waits outside -/
/-- a is where the first waits, n how many -/
def okO9 (u : rg_U) (a n : Nat) : Prop := rF u 6 1 = nI a ∧ rF u 6 2 = nI n ∧ a < 900 ∧ n ≤ 900
/-- the i-th that waits -/
def wt9 (u : rg_U) (a i : Nat) : Int32 := u.2.1 7 ((a + i) % 900)
theorem c_clearIn {F : Nat} {u : rg_U} : g_X4_clearInputs F u = some (sF (sF u 6 1 0) 6 2 0) ∧ okO9 (sF (sF u 6 1 0) 6 2 0) 0 0 := ⟨rfl, rfl, rfl, by omega, by omega⟩
theorem c_addLast {F a n : Nat} {x : Int32} {u : rg_U} (h : okO9 u a n) (hn : n < 900) : ∃ w, g_X4_addLast F x u = some w ∧ okO9 w a (n + 1) ∧ w = sF (rg_R u 7 ((a + n) % 900) x) 6 2 (nI (n + 1)) ∧ (∀ i, i < n → wt9 w a i = wt9 u a i) ∧ wt9 w a n = x := by
  obtain ⟨h1, h2, h3, h4⟩ := h
  have hm : (a + n) % 900 < 900 := Nat.mod_lt _ (by omega)
  refine ⟨sF (rg_R u 7 ((a + n) % 900) x) 6 2 (nI (n + 1)), ?_, ⟨h1, rfl, h3, by omega⟩, rfl, fun i hi => ?_, ?_⟩
  · unfold g_X4_addLast
    rw [h1, h2, if_neg (show ¬ (900 : Int32) ≤ nI n from nI_ge (a := n) (b := 900) hn (by decide)), nI_add, show dx_rem (nI (a + n)) 900 = nI ((a + n) % 900) from pk_rem (a := a + n) (d := 900) (by omega) (by omega) (by omega), ck_t (inb_nI hm (by decide)), lt1_i, sA_nI (by omega), lt1_i, show rF (rg_R u 7 ((a + n) % 900) x) 6 2 = nI n from h2, nI_1]
  · show (rg_R u 7 ((a + n) % 900) x).2.1 7 ((a + i) % 900) = _
    rw [R_at, if_neg (by omega)]
    rfl
  · show (rg_R u 7 ((a + n) % 900) x).2.1 7 ((a + n) % 900) = _
    rw [R_at, if_pos ⟨rfl, rfl⟩]
theorem c_takeFirst {F a n : Nat} {u : rg_U} (h : okO9 u a (n + 1)) : ∃ w, g_X4_takeFirst F u = some (wt9 u a 0, w) ∧ w = sF (sF u 6 1 (nI ((a + 1) % 900))) 6 2 (nI n) ∧ okO9 w ((a + 1) % 900) n ∧ ∀ i, i < n → wt9 w ((a + 1) % 900) i = wt9 u a (i + 1) := by
  obtain ⟨h1, h2, h3, h4⟩ := h
  have hm : (a + 1) % 900 < 900 := Nat.mod_lt _ (by omega)
  refine ⟨sF (sF u 6 1 (nI ((a + 1) % 900))) 6 2 (nI n), ?_, rfl, ⟨rfl, rfl, hm, by omega⟩, fun i hi => ?_⟩
  · unfold g_X4_takeFirst
    rw [h1, h2, if_pos (show (0 : Int32) < nI (n + 1) from nI_lt (a := 0) (by omega) (by omega)), ck_t (inb_nI h3 (by decide)), nI_1, show dx_rem (nI (a + 1)) 900 = nI ((a + 1) % 900) from pk_rem (a := a + 1) (d := 900) (by omega) (by omega) (by omega), lt1_i, lt1_i, show rF (sF u 6 1 (nI ((a + 1) % 900))) 6 2 = nI (n + 1) from h2, show nI (n + 1) - 1 = nI n from nI_sub (a := n + 1) (b := 1) (by omega), rA_nI (by omega)]
    unfold wt9
    rw [show (a + 0) % 900 = a by omega]
  · show u.2.1 7 (((a + 1) % 900 + i) % 900) = u.2.1 7 ((a + (i + 1)) % 900)
    rw [show ((a + 1) % 900 + i) % 900 = (a + (i + 1)) % 900 by omega]
theorem c_addFirst {F a n : Nat} {x : Int32} {u : rg_U} (h : okO9 u a n) (hn : n < 900) : ∃ w, g_X4_addFirst F x u = some w ∧ okO9 w ((a + 899) % 900) (n + 1) ∧ wt9 w ((a + 899) % 900) 0 = x ∧ (∀ i, i < n → wt9 w ((a + 899) % 900) (i + 1) = wt9 u a i) ∧ w = sF (rg_R (sF u 6 1 (nI ((a + 899) % 900))) 7 ((a + 899) % 900) x) 6 2 (nI (n + 1)) := by
  obtain ⟨h1, h2, h3, h4⟩ := h
  have hm : (a + 899) % 900 < 900 := Nat.mod_lt _ (by omega)
  refine ⟨sF (rg_R (sF u 6 1 (nI ((a + 899) % 900))) 7 ((a + 899) % 900) x) 6 2 (nI (n + 1)), ?_, ⟨rfl, rfl, hm, by omega⟩, ?_, fun i hi => ?_, rfl⟩
  · unfold g_X4_addFirst
    rw [h2, if_neg (show ¬ (900 : Int32) ≤ nI n from nI_ge (a := n) (b := 900) hn (by decide)), h1, show nI a + 900 - 1 = nI (a + 899) by rw [show nI a + 900 = nI (a + 900) from nI_add a 900]; exact nI_sub (a := a + 900) (b := 1) (by omega), show dx_rem (nI (a + 899)) 900 = nI ((a + 899) % 900) from pk_rem (a := a + 899) (d := 900) (by omega) (by omega) (by omega), lt1_i, show rF (sF u 6 1 (nI ((a + 899) % 900))) 6 1 = nI ((a + 899) % 900) from rfl, ck_t (inb_nI hm (by decide)), lt1_i, sA_nI (by omega), lt1_i, show rF (rg_R (sF u 6 1 (nI ((a + 899) % 900))) 7 ((a + 899) % 900) x) 6 2 = nI n from h2, nI_1]
  · show (rg_R (sF u 6 1 (nI ((a + 899) % 900))) 7 ((a + 899) % 900) x).2.1 7 (((a + 899) % 900 + 0) % 900) = _
    rw [R_at, if_pos ⟨rfl, by omega⟩]
  · show (rg_R (sF u 6 1 (nI ((a + 899) % 900))) 7 ((a + 899) % 900) x).2.1 7 (((a + 899) % 900 + (i + 1)) % 900) = u.2.1 7 ((a + i) % 900)
    rw [R_at, if_neg (by omega)]
    show u.2.1 7 (((a + 899) % 900 + (i + 1)) % 900) = _
    rw [show ((a + 899) % 900 + (i + 1)) % 900 = (a + i) % 900 by omega]
end W_48
section W_49
-- 97zi.copy
/-! the class: rows copied -/
theorem c_copyRow {F o0 o1 N n : Nat} {u : rg_U} (hn : n ≤ N) (hN : N < 2 ^ 31) : ∃ w, g_X9_copyRow F o0 N o1 N (nI n) u = some w ∧ same0 u w ∧ ∀ j i, w.2.1 j i = if j = o1 ∧ i < n then u.2.1 o0 i else u.2.1 j i := by
  unfold g_X9_copyRow
  have e : imin (nI n) (imin (Int32.ofNat N) (Int32.ofNat N)) = nI n := by
    rw [show Int32.ofNat N = nI N from rfl, imin_nI hN hN, imin_nI (by omega) (by omega), Nat.min_self, Nat.min_eq_left hn]
  rw [e]
  by_cases q : n = 0
  · subst q
    rw [if_pos (by decide)]
    exact ⟨u, rfl, same0_r, fun j i => by rw [if_neg (by omega)]⟩
  · rw [if_neg (show ¬ nI n ≤ 0 from nI_ge (a := 0) (b := n) (by omega) (by omega)), ck_t (by
      unfold cpok
      rw [nI_clamp (by omega), show (0 : Int32).toNatClampNeg = 0 from rfl, Nat.zero_add]
      exact ⟨⟨by decide, by decide, nI_nlt (a := n) (b := 0) (by omega) (by omega)⟩, hn, hn⟩), lt1_i]
    refine ⟨_, rfl, ⟨rfl, rfl⟩, fun j i => ?_⟩
    show va_up u.2.1 o1 (va_cpy (u.2.1 o0) (u.2.1 o1) (0 : Int32).toNatClampNeg (0 : Int32).toNatClampNeg (nI n).toNatClampNeg) j i = _
    rw [nI_clamp (by omega), show (0 : Int32).toNatClampNeg = 0 from rfl]
    by_cases z : j = o1
    · subst z
      rw [pm_up_s]
      unfold va_cpy
      by_cases y : i < n
      · rw [if_pos (by omega), if_pos ⟨rfl, y⟩, Nat.zero_add, Nat.sub_zero]
      · rw [if_neg (by omega), if_neg (fun x => y x.2)]
    · rw [pm_up_n z, if_neg (fun x => z x.1)]
end W_49
section W_50
-- 97zj.take
/-! the class: calls and log of a run that is kept -/
theorem c_callsTake {F o0 o1 n : Nat} {u : rg_U} (hn : rF u o1 3 = nI n) (h : n ≤ 100) (hd : o0 + 3 < o1 ∨ o1 + 3 < o0) : ∃ w, g_X1_takeFrom F o0 o1 u = some w ∧ same0 (sF u o0 3 (nI n)) w ∧ ∀ j i, w.2.1 j i = if (o0 + 1 ≤ j ∧ j ≤ o0 + 3) ∧ i < n then u.2.1 (j - o0 + o1) i else u.2.1 j i := by
  have e0 : rF (sF u o0 3 (nI n)) o0 3 = nI n := by
    show upd u.1 _ (nI n) _ = _
    rw [pk_us]
  have es : ∀ {a b : rg_U}, same0 a b → rF a o0 3 = nI n → rF b o0 3 = nI n := fun {a b} hs hh => by
    have : rF b o0 3 = rF a o0 3 := by unfold rF; rw [hs.1]
    rw [this]; exact hh
  unfold g_X1_takeFrom
  rw [hn, lt1_i, e0]
  obtain ⟨w1, a1, a2, a3⟩ := c_copyRow (F := F) (o0 := o1 + 1) (o1 := o0 + 1) (N := 100) (n := n) (u := sF u o0 3 (nI n)) h (by decide)
  rw [a1, ob_i, es a2 e0]
  obtain ⟨w2, b1, b2, b3⟩ := c_copyRow (F := F) (o0 := o1 + 2) (o1 := o0 + 2) (N := 100) (n := n) (u := w1) h (by decide)
  rw [b1, ob_i, es b2 (es a2 e0)]
  obtain ⟨w3, c1, c2, c3⟩ := c_copyRow (F := F) (o0 := o1 + 3) (o1 := o0 + 3) (N := 100) (n := n) (u := w2) h (by decide)
  rw [c1, ob_i]
  refine ⟨w3, rfl, ⟨c2.1.trans (b2.1.trans a2.1), c2.2.trans (b2.2.trans a2.2)⟩, fun j i => ?_⟩
  have u0 : ∀ j i, (sF u o0 3 (nI n)).2.1 j i = u.2.1 j i := fun _ _ => rfl
  rw [c3]
  by_cases z : i < n
  · by_cases j3 : j = o0 + 3
    · subst j3
      rw [if_pos ⟨rfl, z⟩, b3, if_neg (by omega), a3, if_neg (by omega), u0, if_pos (by omega), show o0 + 3 - o0 + o1 = o1 + 3 by omega]
    · rw [if_neg (fun q => j3 q.1), b3]
      by_cases j2 : j = o0 + 2
      · subst j2
        rw [if_pos ⟨rfl, z⟩, a3, if_neg (by omega), u0, if_pos (by omega), show o0 + 2 - o0 + o1 = o1 + 2 by omega]
      · rw [if_neg (fun q => j2 q.1), a3]
        by_cases j1 : j = o0 + 1
        · subst j1
          rw [if_pos ⟨rfl, z⟩, u0, if_pos (by omega), show o0 + 1 - o0 + o1 = o1 + 1 by omega]
        · rw [if_neg (fun q => j1 q.1), u0, if_neg (by omega)]
  · rw [if_neg (fun q => z q.2), b3, if_neg (fun q => z q.2), a3, if_neg (fun q => z q.2), u0, if_neg (fun q => z q.2)]
end W_50
section W_51
-- 97zk.weak
/-! the class: every call returns (what is read) -/
def Tt {α : Type} (x : Option α) (P : α → Prop) : Prop := ∃ y, x = some y ∧ P y
theorem tt_s {α : Type} {y : α} {P : α → Prop} (h : P y) : Tt (some y) P := ⟨y, rfl, h⟩
theorem tt_ob {α β : Type} {x : Option α} {f : α → Option β} {Q : α → Prop} {P : β → Prop} (h : Tt x Q) (k : ∀ y, Q y → Tt (f y) P) : Tt (ob x f) P := by
  obtain ⟨y, e, q⟩ := h
  rw [ob_e e]
  exact k y q
theorem tt_ck {α : Type} {p : Prop} [Decidable p] {a : Option α} {P : α → Prop} (h : p) (k : Tt a P) : Tt (ck p a) P := by rw [ck_t h]; exact k
theorem tt_lt {α β : Type} {x : α} {f : α → Option β} {P : β → Prop} (k : Tt (f x) P) : Tt (lt1 x f) P := k
theorem tt_if {α : Type} {c : Prop} [Decidable c] {a b : Option α} {P : α → Prop} (ha : c → Tt a P) (hb : ¬ c → Tt b P) : Tt (if c then a else b) P := by
  by_cases q : c
  · rw [if_pos q]; exact ha q
  · rw [if_neg q]; exact hb q
theorem tt_om {α β : Type} {x : Option α} {a : Option β} {f : α → Option β} {P : β → Prop} (ha : x = none → Tt a P) (hb : ∀ y, x = some y → Tt (f y) P) : Tt (om x a f) P := by
  cases x with
  | none => exact ha rfl
  | some y => exact hb y rfl
theorem tt_os {α β γ : Type} {x : α ⊕ β} {f : α → Option γ} {g : β → Option γ} {P : γ → Prop} (ha : ∀ a, x = .inl a → Tt (f a) P) (hb : ∀ c, x = .inr c → Tt (g c) P) : Tt (os x f g) P := by
  cases x with
  | inl a => exact ha a rfl
  | inr c => exact hb c rfl
theorem tt_w {α : Type} {x : Option α} {P Q : α → Prop} (h : Tt x P) (k : ∀ y, P y → Q y) : Tt x Q := by
  obtain ⟨y, e, p⟩ := h
  exact ⟨y, e, k y p⟩
theorem tt_b {α β : Type} {x : Option α} {f : α → β} {Q : α → Prop} {P : β → Prop} (h : Tt x Q) (k : ∀ y, Q y → P (f y)) : Tt (ob x (fun y => some (f y))) P := tt_ob h (fun y hy => tt_s (k y hy))
def PS {σ ρ : Type} (A : σ → Prop) (B : ρ → Prop) (x : σ ⊕ ρ) : Prop := match x with
  | .inl s => A s
  | .inr r => B r
theorem tt_l {σ ρ : Type} {A : σ → Prop} {B : ρ → Prop} {s : σ} (h : A s) : Tt (some (.inl s : σ ⊕ ρ)) (PS A B) := tt_s h
theorem tt_r {σ ρ : Type} {A : σ → Prop} {B : ρ → Prop} {r : ρ} (h : B r) : Tt (some (.inr r : σ ⊕ ρ)) (PS A B) := tt_s h
theorem tt_lp {σ ρ : Type} {body : σ → Option (σ ⊕ ρ)} {I : σ → Prop} {m : σ → Nat} {P : ρ → Prop} (h : ∀ s, I s → Tt (body s) (PS (fun s' => I s' ∧ m s' < m s) P)) : ∀ (f : Nat) (s : σ), m s < f → I s → Tt (lp body f s) P
  | 0, s, h1, _ => by omega
  | f + 1, s, h1, h2 => by
    obtain ⟨x, e, q⟩ := h s h2
    cases x with
    | inl s' =>
      have q : I s' ∧ m s' < m s := q
      obtain ⟨r, e2, hR⟩ := tt_lp h f s' (by omega) q.1
      refine ⟨r, ?_, hR⟩
      unfold lp
      rw [e]
      exact e2
    | inr r =>
      refine ⟨r, ?_, q⟩
      unfold lp
      rw [e]
theorem t_m1 : (-1 : Int32).toInt = -1 := rfl
theorem t_0 : (0 : Int32).toInt = 0 := rfl
theorem t_1 : (1 : Int32).toInt = 1 := rfl
theorem t_2 : (2 : Int32).toInt = 2 := rfl
theorem t_4 : (4 : Int32).toInt = 4 := rfl
theorem t_8 : (8 : Int32).toInt = 8 := rfl
theorem t_10 : (10 : Int32).toInt = 10 := rfl
theorem t_18 : (18 : Int32).toInt = 18 := rfl
theorem t_23 : (23 : Int32).toInt = 23 := rfl
theorem t_32 : (32 : Int32).toInt = 32 := rfl
theorem t_40 : (40 : Int32).toInt = 40 := rfl
theorem t_64 : (64 : Int32).toInt = 64 := rfl
theorem t_100 : (100 : Int32).toInt = 100 := rfl
theorem t_500 : (500 : Int32).toInt = 500 := rfl
theorem t_800 : (800 : Int32).toInt = 800 := rfl
theorem t_900 : (900 : Int32).toInt = 900 := rfl
theorem t_3000 : (3000 : Int32).toInt = 3000 := rfl
theorem t_3800 : (3800 : Int32).toInt = 3800 := rfl
theorem t_lo {x : Int32} : -2147483648 ≤ x.toInt := Int32.le_toInt x
theorem t_hi {x : Int32} : x.toInt < 2147483648 := Int32.toInt_lt x
theorem t_a1 {x : Int32} (h : x.toInt < 2147483647) : (x + 1).toInt = x.toInt + 1 := by
  have := t_lo (x := x)
  rw [Int32.toInt_add, t_1, Int.bmod_eq_of_le (by omega) (by omega)]
theorem t_d1 {x : Int32} (h : -2147483648 < x.toInt) : (x + (-1)).toInt = x.toInt - 1 := by
  have := t_hi (x := x)
  rw [Int32.toInt_add, t_m1, Int.bmod_eq_of_le (by omega) (by omega)]
  omega
theorem t_s1 {x : Int32} (h : -2147483648 < x.toInt) : (x - 1).toInt = x.toInt - 1 := by
  have := t_hi (x := x)
  rw [Int32.toInt_sub, t_1, Int.bmod_eq_of_le (by omega) (by omega)]
theorem tt_rd {α : Type} {h : Option Int32} {c v : α} {x : Int32} {N : Nat} (hh : Tt h (fun r => ¬ r = 0 → inb x N)) : Tt (ob h (fun r1 => if r1 = 0 then some c else ck (inb x N) (some v))) (fun _ => True) := tt_ob hh (fun r hr => tt_if (fun _ => tt_s trivial) (fun q => tt_ck (hr q) (tt_s trivial)))
section WKR
variable {F o o' : Nat} {x y z q : Int32} {u : rg_U}
theorem z_has0 : Tt (g_X0_has F x u) (fun r => ¬ r = 0 → inb x 100) := by
  unfold g_X0_has
  exact tt_if (fun _ => tt_s fun q => absurd rfl q) (fun h1 => tt_if (fun _ => tt_s fun q => absurd rfl q) (fun h2 => tt_if (fun _ => tt_s fun q => absurd rfl q) (fun h3 => tt_s fun _ => (by (try simp only [inb, Int32.lt_iff_toInt_lt, Int32.le_iff_toInt_le, t_m1, t_0, t_1, t_2, t_4, t_8, t_10, t_18, t_23, t_32, t_40, t_64, t_100, t_500, t_800, t_900, t_3000, t_3800] at *) <;> omega))))
theorem z_has1 : Tt (g_X1_has F o x u) (fun r => ¬ r = 0 → inb x 100) := by
  unfold g_X1_has
  exact tt_if (fun _ => tt_s fun q => absurd rfl q) (fun h1 => tt_if (fun _ => tt_s fun q => absurd rfl q) (fun h2 => tt_if (fun _ => tt_s fun q => absurd rfl q) (fun h3 => tt_s fun _ => (by (try simp only [inb, Int32.lt_iff_toInt_lt, Int32.le_iff_toInt_le, t_m1, t_0, t_1, t_2, t_4, t_8, t_10, t_18, t_23, t_32, t_40, t_64, t_100, t_500, t_800, t_900, t_3000, t_3800] at *) <;> omega))))
theorem z_has2 : Tt (g_X2_has F o x u) (fun r => ¬ r = 0 → inb x 64) := by
  unfold g_X2_has
  exact tt_if (fun _ => tt_s fun q => absurd rfl q) (fun h1 => tt_if (fun _ => tt_s fun q => absurd rfl q) (fun h2 => tt_if (fun _ => tt_s fun q => absurd rfl q) (fun h3 => tt_s fun _ => (by (try simp only [inb, Int32.lt_iff_toInt_lt, Int32.le_iff_toInt_le, t_m1, t_0, t_1, t_2, t_4, t_8, t_10, t_18, t_23, t_32, t_40, t_64, t_100, t_500, t_800, t_900, t_3000, t_3800] at *) <;> omega))))
theorem z_has3 : Tt (g_X3_has F o x u) (fun r => ¬ r = 0 → inb x 800) := by
  unfold g_X3_has
  exact tt_if (fun _ => tt_s fun q => absurd rfl q) (fun h1 => tt_if (fun _ => tt_s fun q => absurd rfl q) (fun h2 => tt_if (fun _ => tt_s fun q => absurd rfl q) (fun h3 => tt_s fun _ => (by (try simp only [inb, Int32.lt_iff_toInt_lt, Int32.le_iff_toInt_le, t_m1, t_0, t_1, t_2, t_4, t_8, t_10, t_18, t_23, t_32, t_40, t_64, t_100, t_500, t_800, t_900, t_3000, t_3800] at *) <;> omega))))
theorem z_has6 : Tt (g_X6_has F o x u) (fun r => ¬ r = 0 → inb x 3800) := by
  unfold g_X6_has
  exact tt_if (fun _ => tt_s fun q => absurd rfl q) (fun h1 => tt_if (fun _ => tt_s fun q => absurd rfl q) (fun h2 => tt_if (fun _ => tt_s fun q => absurd rfl q) (fun h3 => tt_s fun _ => (by (try simp only [inb, Int32.lt_iff_toInt_lt, Int32.le_iff_toInt_le, t_m1, t_0, t_1, t_2, t_4, t_8, t_10, t_18, t_23, t_32, t_40, t_64, t_100, t_500, t_800, t_900, t_3000, t_3800] at *) <;> omega))))
theorem z_hasT : Tt (g_X7_hasTime F o x u) (fun r => ¬ r = 0 → inb x 3001) := by
  unfold g_X7_hasTime
  exact tt_if (fun _ => tt_s fun q => absurd rfl q) (fun h1 => tt_if (fun _ => tt_s fun q => absurd rfl q) (fun h2 => tt_if (fun _ => tt_s fun q => absurd rfl q) (fun h3 => tt_s fun _ => (by (try simp only [inb, Int32.lt_iff_toInt_lt, Int32.le_iff_toInt_le, t_m1, t_0, t_1, t_2, t_4, t_8, t_10, t_18, t_23, t_32, t_40, t_64, t_100, t_500, t_800, t_900, t_3000, t_3800] at *) <;> omega))))
theorem z_callOne : Tt (g_X0_callOfOne F x u) (fun _ => True) := by unfold g_X0_callOfOne; exact tt_rd z_has0
theorem z_callOther : Tt (g_X0_callOfOther F x u) (fun _ => True) := by unfold g_X0_callOfOther; exact tt_rd z_has0
theorem z_timeOf6 : Tt (g_X6_timeOf F o x u) (fun _ => True) := by unfold g_X6_timeOf; exact tt_rd z_has6
theorem z_placeOf : Tt (g_X6_placeOf F o x u) (fun _ => True) := by unfold g_X6_placeOf; exact tt_rd z_has6
theorem z_changesOf : Tt (g_X6_changesOf F o x u) (fun _ => True) := by unfold g_X6_changesOf; exact tt_rd z_has6
theorem z_aheadOf : Tt (g_X6_aheadOf F o x u) (fun _ => True) := by unfold g_X6_aheadOf; exact tt_rd z_has6
theorem z_counterAt : Tt (g_X7_counterAt F o x u) (fun _ => True) := by unfold g_X7_counterAt; exact tt_rd z_hasT
theorem z_topAt : Tt (g_X7_topAt F o x u) (fun _ => True) := by unfold g_X7_topAt; exact tt_rd z_hasT
theorem z_outsAt : Tt (g_X7_outsAt F o x u) (fun _ => True) := by unfold g_X7_outsAt; exact tt_rd z_hasT
theorem z_checkAt : Tt (g_X7_checkAt F o x u) (fun _ => True) := by unfold g_X7_checkAt; exact tt_rd z_hasT
theorem z_timeOf2 : Tt (g_X2_timeOf F o x u) (fun _ => True) := by unfold g_X2_timeOf; exact tt_rd z_has2
theorem z_sortOf : Tt (g_X6_sortOf F o x u) (fun _ => True) := by
  unfold g_X6_sortOf
  exact tt_if (fun _ => tt_s trivial) (fun h1 => tt_if (fun _ => tt_s trivial) (fun h2 => tt_if (fun _ => tt_s trivial) (fun h3 => tt_ck (by (try simp only [inb, Int32.lt_iff_toInt_lt, Int32.le_iff_toInt_le, t_m1, t_0, t_1, t_2, t_4, t_8, t_10, t_18, t_23, t_32, t_40, t_64, t_100, t_500, t_800, t_900, t_3000, t_3800] at *) <;> omega) (tt_s trivial))))
theorem z_numberOf : Tt (g_X6_numberOf F o x u) (fun _ => True) := by
  unfold g_X6_numberOf
  exact tt_if (fun _ => tt_s trivial) (fun h1 => tt_if (fun _ => tt_s trivial) (fun h2 => tt_if (fun _ => tt_s trivial) (fun h3 => tt_ck (by (try simp only [inb, Int32.lt_iff_toInt_lt, Int32.le_iff_toInt_le, t_m1, t_0, t_1, t_2, t_4, t_8, t_10, t_18, t_23, t_32, t_40, t_64, t_100, t_500, t_800, t_900, t_3000, t_3800] at *) <;> omega) (tt_s trivial))))
theorem z_hasValue : Tt (g_X6_hasValue F o x y z u) (fun _ => True) := by
  unfold g_X6_hasValue
  exact tt_ob z_sortOf (fun r _ => tt_if (fun _ => tt_ob z_numberOf (fun r2 _ => tt_if (fun _ => tt_s trivial) (fun _ => tt_s trivial))) (fun _ => tt_s trivial))
theorem z_place {x : Int32} (h : ¬ g_X9_isPlace x = 0) : inb x 40 := by
  obtain ⟨k, hk, rfl⟩ := isPl (x := x) (by rw [← cl_place]; exact h)
  exact inb_nI hk (by decide)
theorem z_iplace {x : Int32} (h : ¬ g_X9_isInstructionPlace x = 0) : inb x 64 := by
  rw [cl_ipl] at h
  obtain ⟨k, hk, rfl⟩ := isIn63 h
  exact inb_nI hk (by decide)
theorem z_latestOf : Tt (g_X6_latestOf F o x u) (fun _ => True) := by
  unfold g_X6_latestOf
  exact tt_if (fun _ => tt_s trivial) (fun h => tt_ck (z_place h) (tt_s trivial))
theorem z_isLike : Tt (g_X1_isLike F o x o' y u) (fun _ => True) := by
  unfold g_X1_isLike
  refine tt_ob z_has1 (fun r hr => tt_if (fun _ => tt_s trivial) (fun q => tt_ob z_has1 (fun r2 hr2 => tt_if (fun _ => tt_s trivial) (fun q2 => tt_ck (hr q) (tt_ck (hr2 q2) (tt_if (fun _ => tt_ck (hr q) (tt_ck (hr2 q2) (tt_if (fun _ => tt_s trivial) (fun _ => tt_s trivial)))) (fun _ => tt_s trivial)))))))
theorem z_read1 : Tt (g_X1_read F o x y u) (fun _ => True) := by
  unfold g_X1_read
  exact tt_ob z_has1 (fun r hr => tt_if (fun _ => tt_s trivial) (fun q => tt_if (fun _ => tt_ck (hr q) (tt_s trivial)) (fun _ => tt_if (fun _ => tt_ck (hr q) (tt_s trivial)) (fun _ => tt_if (fun _ => tt_ck (hr q) (tt_s trivial)) (fun _ => tt_s trivial)))))
theorem z_read3 : Tt (g_X3_read F o x y u) (fun _ => True) := by
  unfold g_X3_read
  exact tt_ob z_has3 (fun r hr => tt_if (fun _ => tt_s trivial) (fun q => tt_if (fun _ => tt_ck (hr q) (tt_s trivial)) (fun _ => tt_if (fun _ => tt_ck (hr q) (tt_s trivial)) (fun _ => tt_if (fun _ => tt_ck (hr q) (tt_s trivial)) (fun _ => tt_if (fun _ => tt_ck (hr q) (tt_s trivial)) (fun _ => tt_if (fun _ => tt_ck (hr q) (tt_s trivial)) (fun _ => tt_s trivial)))))))
theorem z_isBehind : Tt (g_X3_isBehind F o x y u) (fun r => ¬ r = 0 → inb x 800) := by
  unfold g_X3_isBehind
  exact tt_ob z_has3 (fun r hr => tt_if (fun _ => tt_s fun q => absurd rfl q) (fun q => tt_ck (hr q) (tt_if (fun _ => tt_ck (hr q) (tt_if (fun _ => tt_s fun q => absurd rfl q) (fun _ => tt_s fun _ => hr q))) (fun _ => tt_ck (hr q) (tt_if (fun _ => tt_s fun q => absurd rfl q) (fun _ => tt_s fun _ => hr q))))))
theorem z_goesAt : Tt (g_X2_goesAt F o x u) (fun _ => True) := by
  unfold g_X2_goesAt
  exact tt_ob z_has2 (fun r hr => tt_if (fun _ => tt_s trivial) (fun q => tt_ck (hr q) (tt_if (fun _ => tt_s trivial) (fun _ => tt_if (fun h1 => tt_ck (hr q) (tt_ck (fun h0 => by rw [h0] at h1; exact absurd h1 (by decide)) (tt_s trivial))) (fun _ => tt_s trivial)))))
theorem z_kindAt : Tt (g_X5_kindAt F o x u) (fun _ => True) := by
  unfold g_X5_kindAt
  exact tt_if (fun _ => tt_s trivial) (fun h => tt_ck (z_iplace h) (tt_s trivial))
theorem z_firstAt : Tt (g_X5_firstAt F o x u) (fun _ => True) := by
  unfold g_X5_firstAt
  exact tt_if (fun _ => tt_s trivial) (fun h => tt_ck (z_iplace h) (tt_s trivial))
theorem z_secondAt : Tt (g_X5_secondAt F o x u) (fun _ => True) := by
  unfold g_X5_secondAt
  exact tt_if (fun _ => tt_s trivial) (fun h => tt_ck (z_iplace h) (tt_s trivial))
theorem z_thirdAt : Tt (g_X5_thirdAt F o x u) (fun _ => True) := by
  unfold g_X5_thirdAt
  exact tt_if (fun _ => tt_s trivial) (fun h => tt_ck (z_iplace h) (tt_s trivial))
theorem z_isFull : Tt (g_X3_isFull F o u) (fun _ => True) := by
  unfold g_X3_isFull
  exact tt_if (fun _ => tt_s trivial) (fun _ => tt_s trivial)
theorem z_status : Tt (g_X7_statusWith F o u) (fun _ => True) := by
  have j55 : Tt (g_X7_statusWith_j55 F o u) (fun _ => True) := by
    unfold g_X7_statusWith_j55
    exact tt_ob z_isFull (fun _ _ => tt_if (fun _ => tt_s trivial) (fun _ => tt_s trivial))
  have j43 : ∀ x, Tt (g_X7_statusWith_j43 F o x u) (fun _ => True) := by
    intro x
    unfold g_X7_statusWith_j43
    exact tt_if (fun _ => j55) (fun _ => tt_if (fun _ => j55) (fun _ => tt_s trivial))
  unfold g_X7_statusWith
  exact tt_if (fun _ => tt_ob z_counterAt (fun _ _ => tt_ob z_kindAt (fun _ _ => tt_if (fun _ => tt_if (fun _ => tt_s trivial) (fun _ => j43 _)) (fun _ => j43 _)))) (fun _ => tt_s trivial)
theorem z_canStep : Tt (g_X7_canStep F o u) (fun _ => True) := by
  unfold g_X7_canStep
  exact tt_if (fun _ => tt_s trivial) (fun _ => tt_ob z_status (fun _ _ => tt_if (fun _ => tt_s trivial) (fun _ => tt_s trivial)))
theorem z_isWatched : Tt (g_X9_isWatched F x u) (fun r => r = 0 ∨ r = 1) := by
  unfold g_X9_isWatched
  exact tt_if (fun _ => tt_s (Or.inl rfl)) (fun _ => tt_if (fun _ => tt_if (fun _ => tt_s (Or.inr rfl)) (fun _ => tt_s (Or.inl rfl))) (fun _ => tt_if (fun _ => tt_s (Or.inr rfl)) (fun _ => tt_s (Or.inl rfl))))
theorem z_isKept : Tt (g_X9_isKept F x u) (fun r => ¬ r = 0 → inb x 4) := by
  unfold g_X9_isKept
  exact tt_if (fun _ => tt_s fun q => absurd rfl q) (fun h1 => tt_if (fun _ => tt_s fun q => absurd rfl q) (fun h2 => tt_if (fun _ => tt_s fun q => absurd rfl q) (fun h3 => tt_s fun _ => (by (try simp only [inb, Int32.lt_iff_toInt_lt, Int32.le_iff_toInt_le, t_m1, t_0, t_1, t_2, t_4, t_8, t_10, t_18, t_23, t_32, t_40, t_64, t_100, t_500, t_800, t_900, t_3000, t_3800] at *) <;> omega))))
theorem z_isMarked {N : Nat} (hN : N < 2 ^ 31) : Tt (g_X9_isMarked F o N x u) (fun _ => True) := by
  unfold g_X9_isMarked
  have hN' : (Int32.ofNat N).toInt = N := nI_toInt (n := N) hN
  exact tt_if (fun _ => tt_s trivial) (fun h1 => tt_if (fun _ => tt_s trivial) (fun h2 => tt_ck (by (try simp only [inb, Int32.lt_iff_toInt_lt, Int32.le_iff_toInt_le, t_m1, t_0, t_1, t_2, t_4, t_8, t_10, t_18, t_23, t_32, t_40, t_64, t_100, t_500, t_800, t_900, t_3000, t_3800] at *) <;> omega) (tt_if (fun _ => tt_s trivial) (fun _ => tt_s trivial))))
theorem z_isInstruction : Tt (g_X9_isInstruction F x y z q u) (fun _ => True) := by
  unfold g_X9_isInstruction
  refine tt_if (fun _ => tt_s trivial) (fun h1 => tt_if (fun _ => tt_s trivial) (fun h2 => tt_if (fun _ => tt_s trivial) (fun h3 => tt_if (fun h4 => ?_) (fun _ => tt_s trivial))))
  have hi : inb x 23 := (by (try simp only [inb, Int32.lt_iff_toInt_lt, Int32.le_iff_toInt_le, t_m1, t_0, t_1, t_2, t_4, t_8, t_10, t_18, t_23, t_32, t_40, t_64, t_100, t_500, t_800, t_900, t_3000, t_3800] at *) <;> omega)
  exact tt_ck hi (tt_if (fun _ => tt_s trivial) (fun _ => tt_ck hi (tt_if (fun _ => tt_s trivial) (fun _ => tt_ck hi (tt_if (fun _ => tt_s trivial) (fun _ => tt_s trivial))))))
theorem z_reckoned : Tt (g_X8_reckoned F x y z u) (fun _ => True) := by
  unfold g_X8_reckoned
  exact tt_if (fun _ => tt_s trivial) (fun _ => tt_if (fun _ => tt_s trivial) (fun _ => tt_if (fun _ => tt_s trivial) (fun _ => tt_if (fun _ => tt_if (fun _ => tt_s trivial) (fun h => tt_ck h (tt_s trivial))) (fun _ => tt_if (fun _ => tt_s trivial) (fun h => tt_ck h (tt_s trivial))))))
/-! loops that change nothing -/
theorem z_stackSize (hF : 10000 < F) : Tt (g_X7_stackSizeAt F o x u) (fun r => 0 ≤ r.toInt ∧ r.toInt ≤ 8) := by
  unfold g_X7_stackSizeAt
  refine tt_ob z_topAt (fun r1 _ => tt_ob (tt_lp (I := fun s => 0 ≤ s.1.toInt ∧ s.1.toInt ≤ 8) (m := fun s => (8 - s.1.toInt).toNat) (P := fun r => 0 ≤ r.toInt ∧ r.toInt ≤ 8) ?_ F _ ?_ ?_) (fun r hr => tt_s hr))
  · rintro ⟨a, c⟩ ⟨h1, h2⟩
    dsimp only at h1 h2 ⊢
    unfold g_X7_stackSizeAt_l8
    refine tt_if (fun _ => tt_r ⟨h1, h2⟩) (fun _ => tt_if (fun _ => tt_r ⟨h1, h2⟩) (fun h3 => tt_ob z_topAt (fun r _ => tt_l ?_)))
    have h4 : a.toInt < 8 := (by (try simp only [inb, Int32.lt_iff_toInt_lt, Int32.le_iff_toInt_le, t_m1, t_0, t_1, t_2, t_4, t_8, t_10, t_18, t_23, t_32, t_40, t_64, t_100, t_500, t_800, t_900, t_3000, t_3800] at *) <;> omega)
    have := t_a1 (x := a) (by omega)
    dsimp only
    omega
  · dsimp only
    rw [t_0]
    omega
  · dsimp only
    rw [t_0]
    omega
theorem z_stackedAt (hF : 10000 < F) : Tt (g_X7_stackedAt F o x y u) (fun _ => True) := by
  unfold g_X7_stackedAt
  refine tt_ob (z_stackSize hF) (fun r1 hr1 => tt_if (fun _ => tt_s trivial) (fun hy => tt_if (fun _ => tt_ob z_topAt (fun r5 _ => tt_ob (tt_lp (I := fun s => -1 ≤ s.2.toInt ∧ s.2.toInt ≤ 8) (m := fun s => (s.2.toInt - y.toInt).toNat) (P := fun _ => True) ?_ F _ ?_ ?_) (fun r hr => tt_ob z_counterAt (fun _ _ => tt_s trivial)))) (fun _ => tt_s trivial)))
  · rintro ⟨a, c⟩ ⟨h1, h2⟩
    dsimp only at h1 h2 ⊢
    unfold g_X7_stackedAt_l30
    refine tt_if (fun _ => tt_r trivial) (fun h3 => tt_ob z_topAt (fun r _ => tt_l ?_))
    have h4 : y.toInt < c.toInt ∧ 0 ≤ y.toInt := (by (try simp only [inb, Int32.lt_iff_toInt_lt, Int32.le_iff_toInt_le, t_m1, t_0, t_1, t_2, t_4, t_8, t_10, t_18, t_23, t_32, t_40, t_64, t_100, t_500, t_800, t_900, t_3000, t_3800] at *) <;> omega)
    have := t_d1 (x := c) (by omega)
    dsimp only
    omega
  · dsimp only
    have := t_s1 (x := r1) (by omega)
    have h4 : 0 ≤ y.toInt := (by (try simp only [inb, Int32.lt_iff_toInt_lt, Int32.le_iff_toInt_le, t_m1, t_0, t_1, t_2, t_4, t_8, t_10, t_18, t_23, t_32, t_40, t_64, t_100, t_500, t_800, t_900, t_3000, t_3800] at *) <;> omega)
    omega
  · dsimp only
    have := t_s1 (x := r1) (by omega)
    omega
theorem z_stackLike (hF : 10000 < F) : Tt (g_X7_hasStackLike F o x o' u) (fun _ => True) := by
  unfold g_X7_hasStackLike
  refine tt_ob z_topAt (fun r1 _ => tt_ob z_topAt (fun r2 _ => tt_ob (tt_lp (I := fun s => 0 ≤ s.2.2.toInt ∧ s.2.2.toInt ≤ 8) (m := fun s => (8 - s.2.2.toInt).toNat) (P := fun _ => True) ?_ F _ ?_ ?_) (fun r hr => tt_os (fun _ _ => tt_s trivial) (fun c _ => ?_))))
  · rintro ⟨a, b, c⟩ ⟨h1, h2⟩
    dsimp only at h1 h2 ⊢
    unfold g_X7_hasStackLike_l16
    refine tt_if (fun _ => tt_r trivial) (fun h3 => tt_if (fun _ => tt_r trivial) (fun _ => tt_if (fun _ => tt_r trivial) (fun _ => tt_ob z_counterAt (fun _ _ => tt_ob z_counterAt (fun _ _ => tt_if (fun _ => tt_ob z_topAt (fun _ _ => tt_ob z_topAt (fun _ _ => tt_l ?_))) (fun _ => tt_r trivial))))))
    have h4 : c.toInt < 8 := (by (try simp only [inb, Int32.lt_iff_toInt_lt, Int32.le_iff_toInt_le, t_m1, t_0, t_1, t_2, t_4, t_8, t_10, t_18, t_23, t_32, t_40, t_64, t_100, t_500, t_800, t_900, t_3000, t_3800] at *) <;> omega)
    have := t_a1 (x := c) (by omega)
    dsimp only
    omega
  · dsimp only
    rw [t_0]
    omega
  · dsimp only
    rw [t_0]
    omega
  · unfold g_X7_hasStackLike_j70
    exact tt_if (fun _ => tt_if (fun _ => tt_s trivial) (fun _ => tt_s trivial)) (fun _ => tt_s trivial)
end WKR
end W_51
