theorem imin_nI {a b : Nat} (ha : a < 2 ^ 31) (hb : b < 2 ^ 31) : imin (nI a) (nI b) = nI (min a b) := by
  unfold imin
  by_cases q : a ≤ b
  · rw [if_neg (nI_nlt (a := b) (b := a) q hb), Nat.min_eq_left q]
  · rw [if_pos (nI_lt (by omega) ha), Nat.min_eq_right (by omega)]
/-- two runs go beside each other -/
def pS (u v : rg_U) (r1 r2 t : Nat) : Prop := coreEq u v ∧ v.2.1 31 = (rpm u r2 t).1 ∧ v.2.1 37 = (rpm u r1 t).1 ∧ v.1 41 = nI r2 ∧ v.1 42 = nI (rpm u r2 t).2 ∧ v.1 53 = nI r1 ∧ v.1 54 = nI (rpm u r1 t).2
theorem pS_swap {F r1 r2 t : Nat} {u v : rg_U} (h : pS u v r1 r2 t) (h1 : runOK u r1) (h2 : runOK u r2) (t1 : t ≤ Tr u r1) (t2 : t ≤ Tr u r2) (hF : 10000 < F) : g_X10_swaps F v = some (swp v) ∧ pS u (swp v) r2 r1 t := by
  obtain ⟨a1, a2, a3, a4, a5, a6, a7⟩ := h
  obtain ⟨b1, b2, b3, b4, b5, b6⟩ := swp_a (v := v)
  exact ⟨m_swaps (by rw [a2]; exact rpm_z h2 t2) (by rw [a3]; exact rpm_z h1 t1) hF, swp_c a1, b1.trans a3, b2.trans a2, b3.trans a6, b4.trans a7, b5.trans a4, b6.trans a5⟩
theorem step_more {F K W r t : Nat} {v : rg_U} (hc : coreM v K W) (ha : act v K r) (h31 : v.2.1 31 = (rpm v r t).1) (h41 : v.1 41 = nI r) (h42 : v.1 42 = nI (rpm v r t).2) (ht : t < Tr v r) (hF : 10000 < F) : ∃ a b c, g_X10_simStep F v = some (sX v a b c (nI r) (nI (rpm v r (t + 1)).2) (rpm v r (t + 1)).1) := by
  have hro := hc.2.2.2.2.1 r ha
  obtain ⟨a, b, c, e⟩ := m_simStep (F := F) (a := v.1 37) (b := v.1 38) (c := v.1 39) (act5 hc.1.2.1 ha) hro.1 hro.2.2.2.2.2.2.1.1 ht hF
  refine ⟨a, b, c, ?_⟩
  have e2 : sX v (v.1 37) (v.1 38) (v.1 39) (nI r) (nI (rp (Pm v r) (Lm v r) (nr v r) t).2) (rp (Pm v r) (Lm v r) (nr v r) t).1 = v := by
    have h := sX_id (u := v)
    rw [h31, h41, h42] at h
    exact h
  rw [e2] at e
  exact e
theorem pS_step {F K W r1 r2 t : Nat} {u v : rg_U} (hc : coreM u K W) (h : coreEq u v ∧ v.2.1 31 = (rpm u r2 t).1 ∧ v.1 41 = nI r2 ∧ v.1 42 = nI (rpm u r2 t).2) (ha : act u K r2) (t2 : t < Tr u r2) (hF : 10000 < F) : ∃ w, g_X10_simStep F v = some w ∧ coreEq u w ∧ w.2.1 31 = (rpm u r2 (t + 1)).1 ∧ w.2.1 37 = v.2.1 37 ∧ w.1 41 = nI r2 ∧ w.1 42 = nI (rpm u r2 (t + 1)).2 ∧ w.1 53 = v.1 53 ∧ w.1 54 = v.1 54 := by
  obtain ⟨a1, a2, a4, a5⟩ := h
  obtain ⟨e1, e2, e3, e5⟩ := eq_c0 (r := r2) a1
  obtain ⟨a, b, c, e⟩ := step_more (F := F) (K := K) (W := W) (r := r2) (t := t) (v := v) (core_eq a1 hc) (act_0 a1 ha) (by rw [e1]; exact a2) a4 (by rw [e1]; exact a5) (by rw [e3]; exact t2) hF
  rw [e1] at e
  exact ⟨_, e, coreEq_t a1 coreEq_sX, sX_A, sX_An (by decide), sX_41, sX_42, sX_n (by decide), sX_n (by decide)⟩
/-- both go on -/
theorem pS_both {F K W r1 r2 t : Nat} {u v : rg_U} (hc : coreM u K W) (h : pS u v r1 r2 t) (a1 : act u K r1) (a2 : act u K r2) (t1 : t < Tr u r1) (t2 : t < Tr u r2) (hF : 10000 < F) : ∃ v1 v2, g_X10_simStep F v = some v1 ∧ g_X10_swaps F v1 = some (swp v1) ∧ g_X10_simStep F (swp v1) = some v2 ∧ g_X10_swaps F v2 = some (swp v2) ∧ pS u (swp v2) r1 r2 (t + 1) := by
  have h1 := hc.2.2.2.2.1 r1 a1
  have h2 := hc.2.2.2.2.1 r2 a2
  obtain ⟨b1, b2, b3, b4, b5, b6, b7⟩ := h
  obtain ⟨v1, e1, c1, c2, c3, c4, c5, c6, c7⟩ := pS_step (r1 := r1) hc ⟨b1, b2, b4, b5⟩ a2 t2 hF
  have z1 : ∀ i, 134 ≤ i → v1.2.1 31 i = 0 := by rw [c2]; exact rpm_z h2 t2
  have z2 : ∀ i, 134 ≤ i → v1.2.1 37 i = 0 := by rw [c3, b3]; exact rpm_z h1 (by omega)
  obtain ⟨d1, d2, d3, d4, d5, d6⟩ := swp_a (v := v1)
  obtain ⟨v2, e2, f1, f2, f3, f4, f5, f6, f7⟩ := pS_step (r1 := r2) (v := swp v1) hc ⟨swp_c c1, by rw [d1, c3, b3], by rw [d3, c6, b6], by rw [d4, c7, b7]⟩ a1 t1 hF
  have z3 : ∀ i, 134 ≤ i → v2.2.1 31 i = 0 := by rw [f2]; exact rpm_z h1 t1
  have z4 : ∀ i, 134 ≤ i → v2.2.1 37 i = 0 := by rw [f3, d2, c2]; exact rpm_z h2 t2
  obtain ⟨g1, g2, g3, g4, g5, g6⟩ := swp_a (v := v2)
  exact ⟨v1, v2, e1, m_swaps z1 z2 hF, e2, m_swaps z3 z4 hF, swp_c f1, by rw [g1, f3, d2, c2], by rw [g2, f2], by rw [g3, f6, d5, c4], by rw [g4, f7, d6, c5], by rw [g5, f4], by rw [g6, f5]⟩
/-- the answer of parts -/
def ptA (u : rg_U) (r1 r2 M : Nat) (x : Int32) : Prop := (x = -1 ∧ ∀ k, k ≤ M → sLk (rpm u r2 k).1 (rpm u r1 k).1) ∨ ∃ k, k ≤ M ∧ x = nI k ∧ ¬ sLk (rpm u r2 k).1 (rpm u r1 k).1 ∧ ∀ j, j < k → sLk (rpm u r2 j).1 (rpm u r1 j).1
theorem m_partsl {F K W r1 r2 M : Nat} {u : rg_U} (hc : coreM u K W) (a1 : act u K r1) (a2 : act u K r2) (m1 : M ≤ Tr u r1) (m2 : M ≤ Tr u r2) (hF : 10000 < F) : ∀ (f k : Nat) (v : rg_U), pS u v r1 r2 k → f + k = M → (∀ j, j < k → sLk (rpm u r2 j).1 (rpm u r1 j).1) → ∀ G, f + 3 < G → ∃ x w, lp (fun (s : Int32 × Int32 × rg_U) => g_X10_parts_l81 F (nI M) s.1 s.2.1 s.2.2) G ((-1 : Int32), nI k, v) = some (x, w) ∧ ptA u r1 r2 M x ∧ ∃ t, t ≤ M ∧ pS u w r1 r2 t
  | f, k, v, hp, hf, hl, G, hG => by
    have hT3 := Tr3 hc a1
    have h2 := hc.2.2.2.2.1 r2 a2
    obtain ⟨-, d, hd8, hd, -⟩ := (rp_ok h2.2.2.2.2.2.2.1.1 k (by omega)).1
    have hd' : v.2.1 31 121 = nI d := by rw [hp.2.1]; exact hd
    match G, hG with
    | G + 3, hG =>
    have nb : ∀ (l : Int32), (k < M → ∃ w, g_X10_parts_j105 F l (nI M) (nI k) v = some (.inl (l, nI (k + 1), w)) ∧ pS u w r1 r2 (k + 1)) ∧ (k = M → g_X10_parts_j105 F l (nI M) (nI k) v = some (.inl (l, nI (k + 1), v))) := by
      intro l
      unfold g_X10_parts_j105 g_X10_parts_j131
      rw [nI_1]
      refine ⟨fun q => ?_, fun q => by rw [if_pos (by rw [q])]⟩
      obtain ⟨v1, v2, e1, e2, e3, e4, e5⟩ := pS_both hc hp a1 a2 (show k < Tr u r1 by omega) (show k < Tr u r2 by omega) hF
      rw [if_neg (fun z => by have := nI_inj (by omega) (by omega) z; omega), e1, ob_i, e2, ob_i, e3, ob_i, e4, ob_i]
      exact ⟨_, rfl, e5⟩
    have hend : ∀ (l : Int32) (w : rg_U), g_X10_parts_l81 F (nI M) l (nI (M + 1)) w = some (.inr (l, w)) := fun l w => by
      unfold g_X10_parts_l81
      rw [if_pos (nI_lt (by omega) (by omega))]
    have hb0 : g_X10_parts_l81 F (nI M) (-1) (nI k) v = ob (g_X10_areStatesLike F v) (fun r28 => if r28 = 0 then (g_X10_parts_j105 F (nI k) (nI M) (nI k) v) else (g_X10_parts_j105 F (-1) (nI M) (nI k) v)) := by
      unfold g_X10_parts_l81
      rw [if_neg (nI_nlt (by omega) (by omega)), if_pos rfl]
    rcases m_like (F := F) hd' hd8 hF with ⟨q1, q2⟩ | ⟨q1, q2⟩
    · rw [hp.2.1, hp.2.2.1] at q2
      rw [q1, ob_i, if_neg one_n0] at hb0
      have hl' : ∀ j, j < k + 1 → sLk (rpm u r2 j).1 (rpm u r1 j).1 := fun j hj => by
        rcases Nat.lt_or_ge j k with z | z
        · exact hl j z
        · rw [show j = k by omega]; exact q2
      match f, hf with
      | 0, hf =>
        rw [(nb (-1)).2 (by omega)] at hb0
        refine ⟨-1, v, ?_, Or.inl ⟨rfl, fun j hj => hl' j (by omega)⟩, k, by omega, hp⟩
        rw [lp_l (body := fun (s : Int32 × Int32 × rg_U) => g_X10_parts_l81 F (nI M) s.1 s.2.1 s.2.2) (s := ((-1 : Int32), nI k, v)) hb0]
        refine lp_r ?_
        rw [show k + 1 = M + 1 by omega]
        exact hend (-1) v
      | f + 1, hf =>
        obtain ⟨w, e1, e2⟩ := (nb (-1)).1 (by omega)
        rw [e1] at hb0
        rw [lp_l (body := fun (s : Int32 × Int32 × rg_U) => g_X10_parts_l81 F (nI M) s.1 s.2.1 s.2.2) (s := ((-1 : Int32), nI k, v)) hb0]
        exact m_partsl hc a1 a2 m1 m2 hF f (k + 1) w e2 (by omega) hl' (G + 2) (by omega)
    · rw [hp.2.1, hp.2.2.1] at q2
      rw [q1, ob_i, if_pos rfl] at hb0
      have hA : ptA u r1 r2 M (nI k) := Or.inr ⟨k, by omega, rfl, q2, hl⟩
      rcases Nat.lt_or_ge k M with z | z
      · obtain ⟨w, e1, e2⟩ := (nb (nI k)).1 z
        rw [e1] at hb0
        refine ⟨nI k, w, ?_, hA, k + 1, by omega, e2⟩
        rw [lp_l (body := fun (s : Int32 × Int32 × rg_U) => g_X10_parts_l81 F (nI M) s.1 s.2.1 s.2.2) (s := ((-1 : Int32), nI k, v)) hb0]
        refine lp_r ?_
        show g_X10_parts_l81 F (nI M) (nI k) (nI (k + 1)) w = _
        unfold g_X10_parts_l81
        rw [if_neg (nI_nlt (by omega) (by omega)), if_neg (nI_m1 (by omega))]
      · rw [(nb (nI k)).2 (by omega)] at hb0
        refine ⟨nI k, v, ?_, hA, k, by omega, hp⟩
        rw [lp_l (body := fun (s : Int32 × Int32 × rg_U) => g_X10_parts_l81 F (nI M) s.1 s.2.1 s.2.2) (s := ((-1 : Int32), nI k, v)) hb0]
        refine lp_r ?_
        rw [show k + 1 = M + 1 by omega]
        exact hend (nI k) v
theorem m_parts40 {F K W r1 r2 : Nat} {u : rg_U} (h : okM u K W) (a1 : act u K r1) (a2 : act u K r2) (hF : 10000 < F) : ∃ x w, g_X10_parts_j40 F (nI r1) (nI r2) u = some (x, w) ∧ ptA u r1 r2 (min (Tr u r1) (Tr u r2)) x ∧ coreEq u w ∧ okM w K W := by
  have h1 := h.1.2.2.2.2.1 r1 a1
  have h2 := h.1.2.2.2.2.1 r2 a2
  have hK := h.1.1.2.1
  unfold g_X10_parts_j40
  obtain ⟨v, b1, b2, b3, b4, b5, b6⟩ := beg_more h a1 hF
  have z1 : ∀ i, 134 ≤ i → v.2.1 31 i = 0 := by rw [b4]; exact rpm_z h1 (Nat.zero_le _)
  have z2 : ∀ i, 134 ≤ i → v.2.1 37 i = 0 := b3.2.2.2.2.2
  obtain ⟨c1, c2, c3, c4, c5, c6⟩ := swp_a (v := v)
  have hcs : coreEq u (swp v) := swp_c b2
  have hcc := core_eq hcs h.1
  obtain ⟨e1, e2, e3, e5⟩ := eq_c0 (r := r2) hcs
  have hro := hcc.2.2.2.2.1 r2 (act_0 hcs a2)
  obtain ⟨a, b, c, e⟩ := m_simBegins (F := F) (u := swp v) (act5 hK a2) hro.1 hro.2.2.2.2.2.2.1.1 (by rw [c1]; exact z2) hF
  rw [b1, ob_i, m_swaps z1 z2 hF, ob_i, e, ob_i]
  have hp : pS u (sX (swp v) a b c (nI r2) (nI (rpm (swp v) r2 0).2) (rpm (swp v) r2 0).1) r1 r2 0 := ⟨coreEq_t hcs coreEq_sX, by rw [sX_A, e1], by rw [sX_An (by decide), c2, b4], sX_41, by rw [← e1]; exact sX_42, by rw [sX_n (by decide), c5, b5], by rw [sX_n (by decide), c6, b6]⟩
  generalize hv : sX (swp v) a b c (nI r2) (nI (rpm (swp v) r2 0).2) (rpm (swp v) r2 0).1 = v' at hp
  rw [show sX (swp v) a b c (nI r2) (nI (rp (Pm (swp v) r2) (Lm (swp v) r2) (nr (swp v) r2) 0).2) (rp (Pm (swp v) r2) (Lm (swp v) r2) (nr (swp v) r2) 0).1 = v' from hv]
  have hT1 := Tr3 h.1 a1
  have hT2 := Tr3 h.1 a2
  have r15 := act5 hK a1
  have r25 := act5 hK a2
  rw [ck_t (inb_nI r15 (by decide)), ck_t (inb_nI r25 (by decide)), rA_nI (by omega), rA_nI (by omega), hp.1.1 21 (by decide), h1.2.1, h2.2.1, imin_nI (by omega) (by omega)]
  obtain ⟨x, w, g1, g2, t, g3, g4⟩ := m_partsl h.1 a1 a2 (Nat.min_le_left (Tr u r1) (Tr u r2)) (Nat.min_le_right (Tr u r1) (Tr u r2)) hF (min (Tr u r1) (Tr u r2)) 0 v' hp (by omega) (fun j hj => by omega) F (by omega)
  rw [show lp (fun (s : Int32 × Int32 × rg_U) => g_X10_parts_l81 F (nI (min (Tr u r1) (Tr u r2))) s.1 s.2.1 s.2.2) F ((-1 : Int32), (0 : Int32), v') = some (x, w) from g1, ob_i, lt1_i]
  have hw : coreEq u (sF w 0 41 (-1)) := ⟨g4.1.1, fun k hk => by
    show upd w.1 41 (-1) k = _
    rw [pk_un (by omega), g4.1.2 k hk]⟩
  exact ⟨x, _, rfl, g2, hw, core_eq hw h.1, simM_none hK rfl (fun i hi => by rw [hw.1 28 (by decide)]; exact h.2.2.2.1 i hi) (fun i hi => by show w.2.1 31 i = 0; rw [g4.2.1]; exact rpm_z h2 (by omega) i hi) (fun i hi => by show w.2.1 37 i = 0; rw [g4.2.2.1]; exact rpm_z h1 (by omega) i hi)⟩
theorem m_parts {F K W : Nat} {x y : Int32} {u : rg_U} (h : okM u K W) (hF : 10000 < F) : (¬ ((∃ r, act u K r ∧ x = (if r = 4 then -1 else nI r)) ∧ ∃ r, act u K r ∧ y = (if r = 4 then -1 else nI r)) ∧ g_X10_parts F x y u = some (-2, u)) ∨ ∃ r1 r2 a w, act u K r1 ∧ x = (if r1 = 4 then -1 else nI r1) ∧ act u K r2 ∧ y = (if r2 = 4 then -1 else nI r2) ∧ g_X10_parts F x y u = some (a, w) ∧ ptA u r1 r2 (min (Tr u r1) (Tr u r2)) a ∧ coreEq u w ∧ okM w K W := by
  unfold g_X10_parts
  have hK := h.1.1.2.1
  rcases m_there (F := F) (x := x) h.1 with ⟨q1, q2⟩ | ⟨r1, q1, q2, q3⟩
  · rw [q1, ob_i, if_pos rfl]; exact Or.inl ⟨fun z => q2 z.1, rfl⟩
  rw [q1, ob_i, if_neg one_n0]
  rcases m_there (F := F) (x := y) h.1 with ⟨p1, p2⟩ | ⟨r2, p1, p2, p3⟩
  · rw [p1, ob_i, if_pos rfl]; exact Or.inl ⟨fun z => p2 z.2, rfl⟩
  rw [p1, ob_i, if_neg one_n0]
  obtain ⟨a, w, e1, e2, e3, e4⟩ := m_parts40 h q2 p2 hF
  refine Or.inr ⟨r1, r2, a, w, q2, q3, p2, p3, ?_, e2, e3, e4⟩
  have r15 := act5 hK q2
  have r25 := act5 hK p2
  have f2 : ∀ s, g_X10_parts_j29 F y s u = g_X10_parts_j40 F s (nI r2) u := fun s => by
    unfold g_X10_parts_j29
    by_cases z : r2 = 4
    · rw [if_pos z] at p3
      rw [if_pos p3, z]
      rfl
    · rw [if_neg z] at p3
      rw [if_neg (by rw [p3]; exact nI_m1 (by omega)), p3]
  rw [f2, f2]
  by_cases z : r1 = 4
  · rw [if_pos z] at q3
    rw [if_pos q3, ← e1, z]
    rfl
  · rw [if_neg z] at q3
    rw [if_neg (by rw [q3]; exact nI_m1 (by omega)), ← e1, q3]
