theorem qS_fl {u v : rg_U} {r l : Nat} {m : Row} {R A : Nat → Int32} {a b c : Int32} (h : qS u v r m l R A) : qS u (fl3 v a b c) r m l R A := by
  obtain ⟨a1, a2, a3, a4, a5, a6, a7⟩ := h
  refine ⟨fun k h1 h2 h3 h4 h5 => ?_, ?_, ?_, a4, a5, a6, a7⟩
  · show upd (upd (upd v.1 37 a) 38 b) 39 c k = _
    rw [pk_un h3, pk_un h2, pk_un h1]; exact a1 k h1 h2 h3 h4 h5
  · show upd (upd (upd v.1 37 a) 38 b) 39 c 41 = _
    rw [pk_un (by decide), pk_un (by decide), pk_un (by decide)]; exact a2
  · show upd (upd (upd v.1 37 a) 38 b) 39 c 42 = _
    rw [pk_un (by decide), pk_un (by decide), pk_un (by decide)]; exact a3
def rsN (P : Prg) (L : Lg) (n : Nat) (m : Row) (l : Nat) (R A : Nat → Int32) : (Nat → Int32) × (Nat → Int32) := rpk L n (n - (if (mstep P m (L.2.2.1 l) (nI l)).2.2.1 = -1 then l else l + 1)) (mstep P m (L.2.2.1 l) (nI l)).1 (if (mstep P m (L.2.2.1 l) (nI l)).2.2.1 = -1 then l else l + 1) (if (mstep P m (L.2.2.1 l) (nI l)).2.2.2 = -1 then R else stR R (lkA P m l R A) (tn (mstep P m (L.2.2.1 l) (nI l)).2.2.2)) (lkA P m l R A)
theorem m_restStep {F r n T t x : Nat} {u v : rg_U} {R A : Nat → Int32} (hr : r < 5) (hn : u.2.1 15 r = nI n) (hG : okG (Pm u r) (Lm u r) n T) (h : qS u v r (rp (Pm u r) (Lm u r) n t).1 (rp (Pm u r) (Lm u r) n t).2 R A) (ht : t < x) (hx : x ≤ T) (hF : 10000 < F) : ∃ w, g_X10_laysRests_l44 F (nI r) (nI x) v = some (.inl w) ∧ qS u w r (rp (Pm u r) (Lm u r) n (t + 1)).1 (rp (Pm u r) (Lm u r) n (t + 1)).2 (rsN (Pm u r) (Lm u r) n (rp (Pm u r) (Lm u r) n t).1 (rp (Pm u r) (Lm u r) n t).2 R A).1 (rsN (Pm u r) (Lm u r) n (rp (Pm u r) (Lm u r) n t).1 (rp (Pm u r) (Lm u r) n t).2 R A).2 := by
  obtain ⟨i1, i2, i3⟩ := rp_ok hG t (by omega)
  have n8 := hG.2.2.1
  have hT := hG.2.2.2.1
  have htake := hG.2.2.2.2 t (by omega)
  rw [show rp (Pm u r) (Lm u r) n (t + 1) = nxt (Pm u r) (Lm u r) n (rp (Pm u r) (Lm u r) n t).1 (rp (Pm u r) (Lm u r) n t).2 from rfl]
  generalize (rp (Pm u r) (Lm u r) n t).1 = m at *
  generalize (rp (Pm u r) (Lm u r) n t).2 = l at *
  obtain ⟨⟨cn, hc1, hc2⟩, d, hd1, hd2, -⟩ := id i1
  obtain ⟨eP, eL⟩ := qS_P h
  obtain ⟨a1, a2, a3, a4, a5, a6, a7⟩ := id h
  unfold g_X10_laysRests_l44
  rw [ck_t (show inb 133 134 by decide), show rA v 31 133 = nI t from (congrFun a4 133).trans i2, if_neg (nI_ge ht (by omega)), m_looks (r := r) (cn := cn) (l := l) (t := t) hr (by rw [eP]; exact hG.1) a2 a3 (by omega) (by rw [eP, ← hc2]; intro q; have := htake q; omega) (by rw [a4]; exact hc2) hc1 (by rw [a4]; exact i2) (by omega) hF, ob_i, eP, a4, a5, a6]
  have q35 := qS_34 (A' := lkA (Pm u r) m l R A) h
  obtain ⟨fP, fL⟩ := qS_P q35
  have hst := m_steps (F := F) (o := 31) (r := r) (cn := cn) (d := d) (ee := l) (u := rw_ v 34 (lkA (Pm u r) m l R A)) hr (by decide) (by rw [fP]; exact hG.1) (by rw [q35.2.2.2.1]; exact hc2) hc1 (by rw [q35.2.2.2.1]; exact hd2) hd1 (by rw [fP, ← hc2]; intro q; have := htake q; omega)
  have e12a : (rw_ v 34 (lkA (Pm u r) m l R A)).2.1 12 (800 * r + l) = u.2.1 12 (800 * r + l) := by rw [q35.2.2.2.2.2.2 12 (by decide) (by decide) (by decide)]
  have e12 : mstep (Pm u r) m (u.2.1 12 (800 * r + l)) (nI l) = mstep (Pm u r) m ((Lm u r).2.2.1 l) (nI l) := by
    by_cases q : kindOf (Pm u r) (m 120) = 19 ∨ kindOf (Pm u r) (m 120) = 20
    · have := htake q
      rw [show (Lm u r).2.2.1 l = u.2.1 12 (800 * r + l) from Lm_2 (by omega)]
    · exact step_num hG.1 i1 (fun z => q (Or.inl z)) (fun z => q (Or.inr z))
  rw [fP, q35.2.2.2.1, e12a, e12] at hst
  rw [show rF (rw_ v 34 (lkA (Pm u r) m l R A)) 0 42 = nI l from a3, hst, ob_i]
  unfold nxt rsN
  have htk := nxt_l (num := (Lm u r).2.2.1 l) hG.1 i1 (show l < 2 ^ 31 by omega)
  have hput := step_put (num := (Lm u r).2.2.1 l) (en := nI l) hG.1 i1
  generalize mstep (Pm u r) m ((Lm u r).2.2.1 l) (nI l) = z at *
  have s40 : qS u (sTp (rw_ v 34 (lkA (Pm u r) m l R A)) 31 z) r z.1 l R (lkA (Pm u r) m l R A) := qS_31 (qS_fl q35)
  have e38 : rF (sTp (rw_ v 34 (lkA (Pm u r) m l R A)) 31 z) 0 38 = z.2.2.1 := by
    show upd (upd (upd v.1 37 z.2.1) 38 z.2.2.1) 39 z.2.2.2 38 = _
    rw [pk_un (by decide), pk_us]
  have e39 : (sTp (rw_ v 34 (lkA (Pm u r) m l R A)) 31 z).1 39 = z.2.2.2 := by
    show upd (upd (upd v.1 37 z.2.1) 38 z.2.2.1) 39 z.2.2.2 39 = _
    rw [pk_us]
  have fin : ∀ (s : rg_U) (l' : Nat), l' ≤ n → s.1 39 = z.2.2.2 → qS u s r z.1 l' R (lkA (Pm u r) m l R A) → ∃ w, g_X10_laysRests_j91 F (nI r) (nI x) s = some (.inl w) ∧ qS u w r (spk (Lm u r) n z.1 l').1 (spk (Lm u r) n z.1 l').2 (rpk (Lm u r) n (n - l') z.1 l' (if z.2.2.2 = -1 then R else stR R (lkA (Pm u r) m l R A) (tn z.2.2.2)) (lkA (Pm u r) m l R A)).1 (rpk (Lm u r) n (n - l') z.1 l' (if z.2.2.2 = -1 then R else stR R (lkA (Pm u r) m l R A) (tn z.2.2.2)) (lkA (Pm u r) m l R A)).2 := by
    intro s l' hl' h39 hs
    unfold g_X10_laysRests_j91 g_X10_laysRests_j107 g_X10_restPokes
    rw [show rF s 0 39 = z.2.2.2 from h39]
    by_cases q : z.2.2.2 = -1
    · rw [if_pos q, if_pos q]
      obtain ⟨w, g1, g2⟩ := m_restPokes (F := F) hr hn n8 hG.2.1 hF (n - l') l' _ _ _ s hs rfl hl' F (by omega)
      rw [g1, ob_i, ob_i]
      exact ⟨w, rfl, g2⟩
    · rw [if_neg q, if_neg q]
      obtain ⟨p, hp, ep⟩ := hput.resolve_left q
      have hs2 := qS_33 (R' := stR R (lkA (Pm u r) m l R A) p) hs
      obtain ⟨w, g1, g2⟩ := m_restPokes (F := F) hr hn n8 hG.2.1 hF (n - l') l' _ _ _ _ hs2 rfl hl' F (by omega)
      rw [ep, m_restsOn hp hF, ob_i, hs.2.2.2.2.1, hs.2.2.2.2.2.1, g1, ob_i, ob_i, tnn (by omega)]
      exact ⟨w, rfl, g2⟩
  rw [e38]
  rcases htk with q | ⟨q1, q2⟩
  · rw [if_pos q, if_pos q]
    exact fin _ l i3 e39 s40
  · have hlt := htake q1
    rw [if_neg q2, if_neg q2, lt1_i, show rF (sTp (rw_ v 34 (lkA (Pm u r) m l R A)) 31 z) 0 42 = nI l from s40.2.2.1, nI_1]
    exact fin _ (l + 1) hlt e39 (qS_42 s40)
/-- the table of rests at the time t -/
def rsR (P : Prg) (L : Lg) (n : Nat) (R A : Nat → Int32) : Nat → (Nat → Int32) × (Nat → Int32)
  | 0 => rpk L n n zrow 0 R A
  | t + 1 => rsN P L n (rp P L n t).1 (rp P L n t).2 (rsR P L n R A t).1 (rsR P L n R A t).2
theorem m_restsl {F r n T x : Nat} {u : rg_U} {R A : Nat → Int32} (hr : r < 5) (hn : u.2.1 15 r = nI n) (hG : okG (Pm u r) (Lm u r) n T) (hx : x ≤ T) (hF : 10000 < F) : ∀ (f t : Nat) (v : rg_U), t + f = x → qS u v r (rp (Pm u r) (Lm u r) n t).1 (rp (Pm u r) (Lm u r) n t).2 (rsR (Pm u r) (Lm u r) n R A t).1 (rsR (Pm u r) (Lm u r) n R A t).2 → ∀ G, f < G → ∃ w, lp (fun (s : rg_U) => g_X10_laysRests_l44 F (nI r) (nI x) s) G v = some w ∧ qS u w r (rp (Pm u r) (Lm u r) n x).1 (rp (Pm u r) (Lm u r) n x).2 (rsR (Pm u r) (Lm u r) n R A x).1 (rsR (Pm u r) (Lm u r) n R A x).2
  | f, t, v, hf, h, 0, hG => by omega
  | 0, t, v, hf, h, G + 1, hGG => by
    have e : t = x := by omega
    subst e
    have hT := hG.2.2.2.1
    refine ⟨v, lp_r ?_, h⟩
    unfold g_X10_laysRests_l44
    rw [ck_t (show inb 133 134 by decide), show rA v 31 133 = nI t from (congrFun h.2.2.2.1 133).trans (rp_ok hG t hx).2.1, if_pos (nI_le (Nat.le_refl _) (by omega))]
  | f + 1, t, v, hf, h, G + 1, hGG => by
    obtain ⟨w, e1, e2⟩ := m_restStep (F := F) hr hn hG h (show t < x by omega) hx hF
    rw [lp_l (body := fun (s : rg_U) => g_X10_laysRests_l44 F (nI r) (nI x) s) e1]
    exact m_restsl hr hn hG hx hF f (t + 1) w (by omega) e2 G (by omega)
