/-! readers of the reference -/
def aR (u : rg_U) : Nat := if u.1 30 = -1 then 4 else tn (u.1 30)
theorem aR_ok {u : rg_U} {K W : Nat} (h : coreM u K W) : aR u < 5 ∧ (u.2.1 5 (aR u) = 0 ∨ (u.2.1 5 (aR u) = 1 ∧ act u K (aR u))) := by
  unfold aR
  rcases h.1.2.2 with q | ⟨r, hr, q⟩
  · rw [if_pos q]
    exact ⟨by omega, h.2.1.1.imp id (fun z => ⟨z, Or.inr ⟨rfl, z⟩⟩)⟩
  · have hK := h.1.2.1
    rw [if_neg (by rw [q]; exact nI_m1 (by omega)), q, tnn (by omega)]
    exact ⟨by omega, Or.inr ⟨h.2.1.2.2 r hr, Or.inl hr⟩⟩
theorem m_ask {F K W : Nat} {u : rg_U} (h : coreM u K W) : g_X10_runAsked F u = some (nI (aR u)) := by
  unfold g_X10_runAsked aR
  have e : rF u 0 30 = u.1 30 := rfl
  rw [e]
  rcases h.1.2.2 with q | ⟨r, hr, q⟩
  · rw [if_pos q, if_pos q]; rfl
  · have hK := h.1.2.1
    have hn : ¬ u.1 30 = -1 := by rw [q]; exact nI_m1 (by omega)
    rw [if_neg hn, if_neg hn, q, tnn (by omega)]
/-- t is a time of the run that is asked -/
def isTm (u : rg_U) (x : Int32) : Prop := u.2.1 5 (aR u) = 1 ∧ ∃ t, t ≤ Tr u (aR u) ∧ x = nI t
theorem m_time {F K W : Nat} {x : Int32} {u : rg_U} (h : coreM u K W) : (g_X10_isTime F x u = some 0 ∧ ¬ isTm u x) ∨ ∃ t, g_X10_isTime F x u = some 1 ∧ act u K (aR u) ∧ u.2.1 5 (aR u) = 1 ∧ t ≤ Tr u (aR u) ∧ x = nI t := by
  obtain ⟨h5, hr⟩ := aR_ok h
  unfold g_X10_isTime
  rw [m_ask h, ob_i, ck_t (inb_nI h5 (by decide)), ck_t (inb_nI h5 (by decide)), rA_nI (by omega), rA_nI (by omega)]
  rcases hr with q | ⟨q, ha⟩
  · refine Or.inl ⟨by rw [if_pos q], fun z => ?_⟩
    have z1 := z.1
    rw [q] at z1
    exact absurd z1 (by decide)
  · have hro := h.2.2.2.2.1 _ ha
    have hT := hro.2.2.2.2.2.2.1.1.2.2.2.1
    rw [if_neg (by rw [q]; decide), hro.2.1]
    by_cases z : g_X10_isIn x 0 (nI (Tr u (aR u))) = 0
    · refine Or.inl ⟨by rw [if_pos z], fun w => ?_⟩
      obtain ⟨-, t, ht, rfl⟩ := w
      exact in_nI (a := 0) (by omega) ht (by omega) z
    · obtain ⟨t, e, h1, h2⟩ := in_nat z (by decide)
      rw [nI_toInt (by omega)] at h2
      exact Or.inr ⟨t, by rw [if_neg z], ha, q, by omega, e⟩
theorem cS_core {a b : rg_U} {r : Nat} {x : Int32} (h : coreEq a b) : coreEq (cS a r x) (cS b r x) := by
  refine ⟨fun j hj => ?_, fun k hk => ?_⟩
  · funext i
    show (rg_R b 25 r (b.2.1 25 r + x)).2.1 j i = (rg_R a 25 r (a.2.1 25 r + x)).2.1 j i
    rw [R_at, R_at, h.1 25 (by decide), h.1 j hj]
  · show upd b.1 35 (b.1 35 + x) k = upd a.1 35 (a.1 35 + x) k
    rw [h.2 35 (by decide)]
    by_cases z : k = 35
    · subst z; rw [pk_us, pk_us]
    · rw [pk_un z, pk_un z, h.2 k hk]
theorem cS_add {u : rg_U} {r : Nat} {x y : Int32} : cS (cS u r x) r y = cS u r (x + y) := by
  unfold cS
  have e1 : (sF (rg_R u 25 r (u.2.1 25 r + x)) 0 35 (u.1 35 + x)).2.1 25 r = u.2.1 25 r + x := by
    show (rg_R u 25 r (u.2.1 25 r + x)).2.1 25 r = _
    rw [R_at, if_pos ⟨rfl, rfl⟩]
  have e2 : (sF (rg_R u 25 r (u.2.1 25 r + x)) 0 35 (u.1 35 + x)).1 35 = u.1 35 + x := rfl
  rw [e1, e2, Int32.add_assoc, Int32.add_assoc]
  unfold sF rg_F rg_R
  dsimp only
  rw [upd2, va_twice]
  have e3 : va_up u.2.1 25 (upd (u.2.1 25) r (u.2.1 25 r + x)) 25 = upd (u.2.1 25) r (u.2.1 25 r + x) := pm_up_s
  rw [e3, upd2]
theorem cS_n {u : rg_U} {r j : Nat} {x : Int32} (h : j ≠ 25) : (cS u r x).2.1 j = u.2.1 j := by
  show va_up u.2.1 25 _ j = _
  exact pm_up_n h
/-- what is read of a run doesn't change by counting -/
theorem eq_c {u v : rg_U} {r q : Nat} {x : Int32} (h : coreEq (cS u q x) v) : (∀ t, rpm v r t = rpm u r t) ∧ (∀ t, costM v r t = costM u r t) ∧ Tr v r = Tr u r ∧ aR v = aR u ∧ v.2.1 5 = u.2.1 5 ∧ Pm v r = Pm u r := by
  have hA : ∀ j, j ≤ 30 → j ≠ 25 → v.2.1 j = u.2.1 j := fun j h1 h2 => by rw [h.1 j h1, cS_n h2]
  refine ⟨fun t => ?_, fun t => ?_, ?_, ?_, hA 5 (by decide) (by decide), ?_⟩
  · unfold rpm Pm Lm nr
    rw [hA 6 (by decide) (by decide), hA 7 (by decide) (by decide), hA 8 (by decide) (by decide), hA 9 (by decide) (by decide), hA 10 (by decide) (by decide), hA 11 (by decide) (by decide), hA 12 (by decide) (by decide), hA 13 (by decide) (by decide), hA 14 (by decide) (by decide), hA 15 (by decide) (by decide)]
  · unfold costM Hm Ur Tr
    rw [hA 20 (by decide) (by decide), hA 21 (by decide) (by decide), hA 23 (by decide) (by decide)]
  · unfold Tr
    rw [hA 21 (by decide) (by decide)]
  · unfold aR
    rw [h.2 30 (by decide)]
    rfl
  · unfold Pm
    rw [hA 6 (by decide) (by decide), hA 7 (by decide) (by decide), hA 8 (by decide) (by decide), hA 9 (by decide) (by decide)]
theorem act_v {u v : rg_U} {K r q : Nat} {x : Int32} (h : coreEq (cS u q x) v) (ha : act u K r) : act v K r := by
  unfold act at ha ⊢
  rw [(eq_c (r := 0) h).2.2.2.2.1]
  exact ha
/-- one replay more -/
theorem rep_more {F K W r t x : Nat} {u v : rg_U} (hv : coreEq (cS u r (nI x)) v) (hok : okM v K W) (ha : act u K r) (ht : t ≤ Tr u r) (hF : 10000 < F) : ∃ w, g_X10_replays F (nI r) (nI t) v = some w ∧ coreEq (cS u r (nI (x + costM u r t))) w ∧ okM w K W ∧ w.2.1 31 = (rpm u r t).1 := by
  obtain ⟨e1, e2, e3, -⟩ := eq_c (r := r) hv
  obtain ⟨w, g1, g2, g3, g4, g5⟩ := m_replays (t := t) hok.1 hok.2 (act_v hv ha) (by rw [e3]; exact ht) hF
  rw [e2] at g2
  rw [e1] at g5
  refine ⟨w, g1, ?_, ⟨g3, g4⟩, g5⟩
  have := coreEq_t (cS_core (r := r) (x := nI (costM u r t)) hv) g2
  rwa [cS_add, nI_add] at this
theorem rep_0 {u : rg_U} {r : Nat} : coreEq (cS u r (nI 0)) u := by
  have : cS u r (nI 0) = u := cS_0
  rw [this]
  exact coreEq_r
/-- the answer of at -/
theorem m_at {F K W : Nat} {x y z : Int32} {u : rg_U} (h : okM u K W) (hF : 10000 < F) : (¬ (isTm u x ∧ ¬ g_X10_isPlace y = 0 ∧ ¬ g_X10_isIn z 0 2 = 0) ∧ g_X10_at F x y z u = some (-1000001, sF u 0 35 0) ∧ okM (sF u 0 35 0) K W) ∨ ∃ t p u', act u K (aR u) ∧ u.2.1 5 (aR u) = 1 ∧ t ≤ Tr u (aR u) ∧ x = nI t ∧ p < 40 ∧ y = nI p ∧ ¬ g_X10_isIn z 0 2 = 0 ∧ g_X10_at F x y z u = some ((rpm u (aR u) t).1 (if z = 0 then p else if z = 1 then 40 + p else 80 + p), u') ∧ okM u' K W ∧ coreEq (cS (sF u 0 35 0) (aR u) (nI (costM u (aR u) t))) u' := by
  have h0 : okM (sF u 0 35 0) K W := okM_34 (by omega) h
  unfold g_X10_at
  rw [lt1_i]
  rcases m_time (F := F) (x := x) h0.1 with ⟨q1, q2⟩ | ⟨t, q1, q2, q3, q4, rfl⟩
  · rw [q1, ob_i, if_pos rfl]
    exact Or.inl ⟨fun w => q2 w.1, rfl, h0⟩
  rw [q1, ob_i, if_neg one_n0]
  by_cases qp : g_X10_isPlace y = 0
  · rw [if_pos qp]; exact Or.inl ⟨fun w => w.2.1 qp, rfl, h0⟩
  rw [if_neg qp]
  by_cases qz : g_X10_isIn z 0 2 = 0
  · rw [if_pos qz]; exact Or.inl ⟨fun w => w.2.2 qz, rfl, h0⟩
  rw [if_neg qz, m_ask h0.1, ob_i]
  obtain ⟨p, hp, rfl⟩ := isPl qp
  obtain ⟨w, e1, e2, e3, e4⟩ := rep_more (u := sF u 0 35 0) (x := 0) rep_0 h0 q2 q4 hF
  rw [Nat.zero_add] at e2
  rw [e1, ob_i, c0, c40, c80, ck_t (inb_nI (by omega) (by decide)), ck_t (inb_nI (by omega) (by decide)), ck_t (inb_nI (by omega) (by decide)), rA_nI (by omega), rA_nI (by omega), rA_nI (by omega), e4]
  refine Or.inr ⟨t, p, w, q2, q3, q4, rfl, hp, rfl, qz, ?_, e3, e2⟩
  by_cases z0 : z = 0
  · rw [if_pos z0, if_pos z0]; rfl
  · rw [if_neg z0, if_neg z0]
    by_cases z1 : z = 1
    · rw [if_pos z1, if_pos z1]; rfl
    · rw [if_neg z1, if_neg z1]; rfl
/-- the answer of state: of the row m, of a program P -/
def stA (P : Prg) (m : Row) (y : Int32) : Int32 := if y = 0 then m 120 else if y = 1 then m 121 else if y = 2 then m 130 else if y = 3 then m 131 else if y = 4 then kindOf P (m 120) else if m 121 ≤ y - 10 then -1000001 else m (tn (122 + y - 10))
def stW (y : Int32) : Prop := ¬ g_X10_isIn y 0 4 = 0 ∨ ¬ g_X10_isIn y 10 17 = 0
theorem m_state {F K W : Nat} {x y : Int32} {u : rg_U} (h : okM u K W) (hF : 10000 < F) : (¬ (isTm u x ∧ stW y) ∧ g_X10_state F x y u = some (-1000001, sF u 0 35 0) ∧ okM (sF u 0 35 0) K W) ∨ ∃ t u', act u K (aR u) ∧ u.2.1 5 (aR u) = 1 ∧ t ≤ Tr u (aR u) ∧ x = nI t ∧ stW y ∧ g_X10_state F x y u = some (stA (Pm u (aR u)) (rpm u (aR u) t).1 y, u') ∧ okM u' K W ∧ coreEq (cS (sF u 0 35 0) (aR u) (nI (costM u (aR u) t))) u' := by
  have h0 : okM (sF u 0 35 0) K W := okM_34 (by omega) h
  unfold g_X10_state
  rw [lt1_i]
  rcases m_time (F := F) (x := x) h0.1 with ⟨q1, q2⟩ | ⟨t, q1, q2, q3, q4, rfl⟩
  · rw [q1, ob_i, if_pos rfl]
    exact Or.inl ⟨fun w => q2 w.1, rfl, h0⟩
  rw [q1, ob_i, if_neg one_n0]
  have key : stW y → ∃ t' u', act u K (aR u) ∧ u.2.1 5 (aR u) = 1 ∧ t' ≤ Tr u (aR u) ∧ nI t = nI t' ∧ stW y ∧ g_X10_state_j37 F (nI t) y (sF u 0 35 0) = some (stA (Pm u (aR u)) (rpm u (aR u) t').1 y, u') ∧ okM u' K W ∧ coreEq (cS (sF u 0 35 0) (aR u) (nI (costM u (aR u) t'))) u' := by
    intro hy
    unfold g_X10_state_j37
    rw [m_ask h0.1, ob_i]
    obtain ⟨w, e1, e2, e3, e4⟩ := rep_more (u := sF u 0 35 0) (x := 0) rep_0 h0 q2 q4 hF
    rw [Nat.zero_add] at e2
    obtain ⟨g1, g2, g3, g4, g5, g6⟩ := eq_c (r := aR u) e2
    have hro := h.1.2.2.2.2.1 (aR u) q2
    obtain ⟨⟨cn, hc1, hc2⟩, d, hd1, hd2, -⟩ := (rp_ok hro.2.2.2.2.2.2.1.1 t q4).1
    have ea : ∀ i, rA w 31 i = (rpm u (aR u) t).1 (tn i) := fun i => congrFun e4 _
    have a120 : (rpm u (aR u) t).1 120 = nI cn := hc2
    have a121 : (rpm u (aR u) t).1 121 = nI d := hd2
    rw [e1, ob_i]
    simp only [ea, show tn 120 = 120 from by decide, show tn 121 = 121 from by decide, show tn 130 = 130 from by decide, show tn 131 = 131 from by decide, ck_t (show inb 120 134 by decide), ck_t (show inb 121 134 by decide), ck_t (show inb 130 134 by decide), ck_t (show inb 131 134 by decide)]
    rw [m_ask e3.1, ob_i, g4, a120, show aR (sF u 0 35 0) = aR u from rfl, m_kindAt (aR_ok h.1).1 hc1, ob_i, g6, show Pm (sF u 0 35 0) (aR u) = Pm u (aR u) from rfl]
    refine ⟨t, w, q2, q3, q4, rfl, hy, ?_, e3, e2⟩
    unfold stA
    by_cases y0 : y = 0
    · rw [if_pos y0, if_pos y0, a120]
    rw [if_neg y0, if_neg y0]
    by_cases y1 : y = 1
    · rw [if_pos y1, if_pos y1]
    rw [if_neg y1, if_neg y1]
    by_cases y2 : y = 2
    · rw [if_pos y2, if_pos y2]
    rw [if_neg y2, if_neg y2]
    by_cases y3 : y = 3
    · rw [if_pos y3, if_pos y3]
    rw [if_neg y3, if_neg y3]
    by_cases y4 : y = 4
    · rw [if_pos y4, if_pos y4, a120]
    rw [if_neg y4, if_neg y4]
    have hy10 : ∃ k, 10 ≤ k ∧ k ≤ 17 ∧ y = nI k := by
      rcases hy with z | z
      · exfalso
        obtain ⟨k, e, k1, k2⟩ := in_nat z (by decide)
        have e4 : (4 : Int32).toInt = 4 := rfl
        rcases (show k = 0 ∨ k = 1 ∨ k = 2 ∨ k = 3 ∨ k = 4 by omega) with z | z | z | z | z
        · exact y0 (by rw [e, z]; rfl)
        · exact y1 (by rw [e, z]; rfl)
        · exact y2 (by rw [e, z]; rfl)
        · exact y3 (by rw [e, z]; rfl)
        · exact y4 (by rw [e, z]; rfl)
      · obtain ⟨k, e, k1, k2⟩ := in_nat z (by decide)
        have e4 : (10 : Int32).toInt = 10 := rfl
        have e5 : (17 : Int32).toInt = 17 := rfl
        exact ⟨k, by omega, by omega, e⟩
    obtain ⟨k, k1, k2, rfl⟩ := hy10
    rw [show (122 : Int32) + nI k - 10 = nI (122 + k - 10) by rw [show (122 : Int32) + nI k = nI (122 + k) from nI_add 122 k]; exact nI_sub (a := 122 + k) (b := 10) (by omega), ck_t (inb_nI (show 122 + k - 10 < 134 by omega) (by decide))]
    by_cases z : (rpm u (aR u) t).1 121 ≤ nI k - 10
    · rw [if_pos z, if_pos z]
    · rw [if_neg z, if_neg z]
  by_cases qa : g_X10_isIn y 0 4 = 0
  · rw [if_pos qa]
    by_cases qb : g_X10_isIn y 10 17 = 0
    · rw [if_pos qb]
      exact Or.inl ⟨fun w => w.2.elim (fun z => z qa) (fun z => z qb), rfl, h0⟩
    · rw [if_neg qb]
      exact Or.inr (key (Or.inr qb))
  · rw [if_neg qa]
    exact Or.inr (key (Or.inl qa))
theorem lp_l {σ ρ : Type} {body : σ → Option (σ ⊕ ρ)} {s s' : σ} {f : Nat} (h : body s = some (.inl s')) : lp body (f + 1) s = lp body f s' := by
  show (match body s with | none => none | some (.inl s') => lp body f s' | some (.inr r) => some r) = _
  rw [h]
theorem lp_r {σ ρ : Type} {body : σ → Option (σ ⊕ ρ)} {s : σ} {r : ρ} {f : Nat} (h : body s = some (.inr r)) : lp body (f + 1) s = some r := by
  show (match body s with | none => none | some (.inl s') => lp body f s' | some (.inr r) => some r) = _
  rw [h]
/-! the halving: result and cost -/
def hvg (c : Nat → Prop) [∀ m, Decidable (c m)] (cost : Nat → Nat) : Nat → Nat → Nat → Nat × Nat
  | 0, lo, _ => (lo, 0)
  | f + 1, lo, hi => if lo < hi then (if c ((lo + hi) / 2) then ((hvg c cost f lo ((lo + hi) / 2)).1, cost ((lo + hi) / 2) + (hvg c cost f lo ((lo + hi) / 2)).2) else ((hvg c cost f ((lo + hi) / 2 + 1) hi).1, cost ((lo + hi) / 2) + (hvg c cost f ((lo + hi) / 2 + 1) hi).2)) else (lo, 0)
theorem hvg_y {c : Nat → Prop} [∀ m, Decidable (c m)] {cost : Nat → Nat} {f lo hi : Nat} (h : lo < hi) (hc : c ((lo + hi) / 2)) : hvg c cost (f + 1) lo hi = ((hvg c cost f lo ((lo + hi) / 2)).1, cost ((lo + hi) / 2) + (hvg c cost f lo ((lo + hi) / 2)).2) := by
  show (if lo < hi then _ else _) = _
  rw [if_pos h, if_pos hc]
theorem hvg_n {c : Nat → Prop} [∀ m, Decidable (c m)] {cost : Nat → Nat} {f lo hi : Nat} (h : lo < hi) (hc : ¬ c ((lo + hi) / 2)) : hvg c cost (f + 1) lo hi = ((hvg c cost f ((lo + hi) / 2 + 1) hi).1, cost ((lo + hi) / 2) + (hvg c cost f ((lo + hi) / 2 + 1) hi).2) := by
  show (if lo < hi then _ else _) = _
  rw [if_pos h, if_neg hc]
theorem m_hv {F K W r T p : Nat} {c : Int32} {u : rg_U} (ha : act u K r) (hT : T ≤ Tr u r) (hT3 : T ≤ 3000) (hp : p < 40) (hF : 10000 < F) : ∀ (f lo hi x : Nat) (v : rg_U), coreEq (cS u r (nI x)) v → okM v K W → hi ≤ T → hi - lo ≤ f → lo ≤ hi → ∀ G, f < G → ∃ w, lp (fun (s : Int32 × Int32 × rg_U) => g_X10_lastOf_l35 F (nI p) (nI r) c s.1 s.2.1 s.2.2) G (nI lo, nI hi, v) = some (nI (hvg (fun m => (rpm u r m).1 (80 + p) = c) (costM u r) f lo hi).1, w) ∧ coreEq (cS u r (nI (x + (hvg (fun m => (rpm u r m).1 (80 + p) = c) (costM u r) f lo hi).2))) w ∧ okM w K W
  | f, lo, hi, x, v, hv, hok, h1, h2, h3, G, hG => by
    match G, hG with
    | 0, hG => omega
    | G + 1, hG =>
    by_cases q : lo < hi
    · match f, h2, hG with
      | 0, h2, hG => omega
      | f + 1, h2, hG =>
        obtain ⟨w, e1, e2, e3, e4⟩ := rep_more (t := (lo + hi) / 2) hv hok ha (by omega) hF
        have hb : g_X10_lastOf_l35 F (nI p) (nI r) c (nI lo) (nI hi) v = if (rpm u r ((lo + hi) / 2)).1 (80 + p) = c then some (.inl (nI lo, nI ((lo + hi) / 2), w)) else some (.inl (nI ((lo + hi) / 2 + 1), nI hi, w)) := by
          unfold g_X10_lastOf_l35 g_X10_lastOf_j85
          rw [if_neg (nI_ge q (by omega)), nI_add, show nI (lo + hi) / 2 = nI ((lo + hi) / 2) from pk_div (d := 2) (by omega) (by decide) (by decide), e1, ob_i, c80, ck_t (inb_nI (by omega) (by decide)), rA_nI (by omega), e4, nI_1]
        by_cases z : (rpm u r ((lo + hi) / 2)).1 (80 + p) = c
        · rw [if_pos z] at hb
          rw [lp_l (body := fun (s : Int32 × Int32 × rg_U) => g_X10_lastOf_l35 F (nI p) (nI r) c s.1 s.2.1 s.2.2) (s := (nI lo, nI hi, v)) hb, hvg_y (c := fun m => (rpm u r m).1 (80 + p) = c) q z]
          obtain ⟨w', g1, g2, g3⟩ := m_hv (c := c) ha hT hT3 hp hF f lo ((lo + hi) / 2) (x + costM u r ((lo + hi) / 2)) w e2 e3 (by omega) (by omega) (by omega) G (by omega)
          refine ⟨w', g1, ?_, g3⟩
          dsimp only
          rw [← Nat.add_assoc]
          exact g2
        · rw [if_neg z] at hb
          rw [lp_l (body := fun (s : Int32 × Int32 × rg_U) => g_X10_lastOf_l35 F (nI p) (nI r) c s.1 s.2.1 s.2.2) (s := (nI lo, nI hi, v)) hb, hvg_n (c := fun m => (rpm u r m).1 (80 + p) = c) q z]
          obtain ⟨w', g1, g2, g3⟩ := m_hv (c := c) ha hT hT3 hp hF f ((lo + hi) / 2 + 1) hi (x + costM u r ((lo + hi) / 2)) w e2 e3 (by omega) (by omega) (by omega) G (by omega)
          refine ⟨w', g1, ?_, g3⟩
          dsimp only
          rw [← Nat.add_assoc]
          exact g2
    · have hb : g_X10_lastOf_l35 F (nI p) (nI r) c (nI lo) (nI hi) v = some (.inr (nI lo, v)) := by
        unfold g_X10_lastOf_l35
        rw [if_pos (nI_le (by omega) (by omega))]
      have e : hvg (fun m => (rpm u r m).1 (80 + p) = c) (costM u r) f lo hi = (lo, 0) := by
        cases f with
        | zero => rfl
        | succ f => exact if_neg q
      rw [lp_r (body := fun (s : Int32 × Int32 × rg_U) => g_X10_lastOf_l35 F (nI p) (nI r) c s.1 s.2.1 s.2.2) (s := (nI lo, nI hi, v)) hb, e]
      exact ⟨v, rfl, hv, hok⟩
