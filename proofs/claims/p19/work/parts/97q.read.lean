/-! look, done, history of the reference -/
def wtB (u : rg_U) (a : Nat) : Nat → Int32
  | 0 => 0
  | k + 1 => wtB u a k ||| (if u.2.1 30 (a + k) = 0 then 0 else dx_shl 1 (nI k))
theorem m_watchedOf {F a n : Nat} {u : rg_U} (han : a + n ≤ 40) (hF : 10000 < F) : g_X10_watchedOf F (nI a) (nI n) u = some (wtB u a n) := by
  have h := lp_up (body := fun (s : Int32 × Int32) => g_X10_watchedOf_l5 F (nI a) (nI n) u s.1 s.2) (fun k => (wtB u a k, nI k)) n (wtB u a n) (fun k hk => by
    show g_X10_watchedOf_l5 F (nI a) (nI n) u (wtB u a k) (nI k) = _
    unfold g_X10_watchedOf_l5 g_X10_watchedOf_j32
    rw [if_neg (nI_ge hk (by omega)), nI_add, ck_t (inb_nI (by omega) (by decide)), rA_nI (by omega), nI_1]
    show _ = some (Sum.inl (wtB u a k ||| (if u.2.1 30 (a + k) = 0 then 0 else dx_shl 1 (nI k)), nI (k + 1)))
    by_cases z : u.2.1 30 (a + k) = 0
    · rw [if_pos z, if_pos z]
    · rw [if_neg z, if_neg z]) (by
    show g_X10_watchedOf_l5 F (nI a) (nI n) u _ (nI n) = _
    unfold g_X10_watchedOf_l5
    rw [if_pos (nI_le (Nat.le_refl _) (by omega))]) F 0 (Nat.zero_le _) (by omega)
  unfold g_X10_watchedOf
  rw [show lp (fun (s : Int32 × Int32) => g_X10_watchedOf_l5 F (nI a) (nI n) u s.1 s.2) F ((0 : Int32), (0 : Int32)) = _ from h, ob_i]
def ofA (u : rg_U) (W r : Nat) (x : Int32) : Int32 := if x = 0 then u.2.1 21 r else if x = 1 then (if r = 4 then stM u W else u.2.1 22 r) else if x = 2 then u.2.1 25 r else if x = 3 then u.2.1 26 r else if x = 4 then u.2.1 23 r else if x = 5 then u.2.1 24 r else u.2.1 27 r
theorem m_ofRun {F K W r : Nat} {x : Int32} {u : rg_U} (h : coreM u K W) (ha : act u K r) : g_X10_ofRun F (nI r) x u = some (ofA u W r x) := by
  have h5 := act5 h.1.2.1 ha
  have hK := h.1.2.1
  unfold g_X10_ofRun ofA
  simp only [ck_t (inb_nI h5 (show 5 < 2 ^ 31 by decide)), rA_nI (show r < 2 ^ 31 by omega)]
  by_cases x0 : x = 0
  · rw [if_pos x0, if_pos x0]
  rw [if_neg x0, if_neg x0]
  by_cases x1 : x = 1
  · rw [if_pos x1, if_pos x1]
    by_cases r4 : r = 4
    · rw [if_pos (show nI r = 4 by rw [r4]; rfl), if_pos r4]
      have : u.2.1 5 4 = 1 := by
        rcases ha with z | z
        · omega
        · exact z.2
      rw [m_status h this, ob_i]
    · rw [if_neg (show ¬ nI r = 4 from fun z => r4 (nI_inj (a := r) (b := 4) (by omega) (by omega) z)), if_neg r4]
  rw [if_neg x1, if_neg x1]
  by_cases x2 : x = 2
  · rw [if_pos x2, if_pos x2]
  rw [if_neg x2, if_neg x2]
  by_cases x3 : x = 3
  · rw [if_pos x3, if_pos x3]
  rw [if_neg x3, if_neg x3]
  by_cases x4 : x = 4
  · rw [if_pos x4, if_pos x4]
  rw [if_neg x4, if_neg x4]
  by_cases x5 : x = 5
  · rw [if_pos x5, if_pos x5]
  rw [if_neg x5, if_neg x5]
def loA (u : rg_U) (W : Nat) (x : Int32) : Int32 := if g_X10_isIn x 0 6 = 0 then (if x = 7 then u.1 29 else if x = 8 then u.1 33 else if x = 9 then u.1 34 else if x = 10 then u.1 35 else if x = 11 then wtB u 0 8 else if x = 12 then wtB u 8 32 else -1000001) else if u.2.1 5 (aR u) = 0 then 0 else ofA u W (aR u) x
theorem m_look {F K W : Nat} {x : Int32} {u : rg_U} (h : coreM u K W) (hF : 10000 < F) : g_X10_look F x u = some (loA u W x) := by
  obtain ⟨h5, hr⟩ := aR_ok h
  unfold g_X10_look loA
  by_cases q : g_X10_isIn x 0 6 = 0
  · rw [if_pos q, if_pos q, show g_X10_watchedOf F 0 8 u = some (wtB u 0 8) from m_watchedOf (a := 0) (n := 8) (by omega) hF, show g_X10_watchedOf F 8 32 u = some (wtB u 8 32) from m_watchedOf (a := 8) (n := 32) (by omega) hF, ob_i, ob_i]
    by_cases x0 : x = 7
    · rw [if_pos x0, if_pos x0]; rfl
    rw [if_neg x0, if_neg x0]
    by_cases x1 : x = 8
    · rw [if_pos x1, if_pos x1]; rfl
    rw [if_neg x1, if_neg x1]
    by_cases x2 : x = 9
    · rw [if_pos x2, if_pos x2]; rfl
    rw [if_neg x2, if_neg x2]
    by_cases x3 : x = 10
    · rw [if_pos x3, if_pos x3]; rfl
    rw [if_neg x3, if_neg x3]
    by_cases x4 : x = 11
    · rw [if_pos x4, if_pos x4]
    rw [if_neg x4, if_neg x4]
    by_cases x5 : x = 12
    · rw [if_pos x5, if_pos x5]
    rw [if_neg x5, if_neg x5]
  · rw [if_neg q, if_neg q, m_ask h, ob_i, ob_i, ck_t (inb_nI h5 (by decide)), rA_nI (by omega)]
    rcases hr with z | ⟨z, ha⟩
    · rw [if_pos z, if_pos z]
    · have z0 : ¬ u.2.1 5 (aR u) = 0 := by rw [z]; decide
      rw [if_neg z0, if_neg z0, m_ofRun h ha, ob_i]
/-- how often the counter was c before t -/
def dnC (u : rg_U) (r : Nat) (c : Int32) : Nat → Nat
  | 0 => 0
  | t + 1 => dnC u r c t + (if (rpm u r t).1 120 = c then 1 else 0)
theorem m_donel {F K W r t : Nat} {c : Int32} {u : rg_U} (h : okM u K W) (ha : act u K r) (ht : t ≤ Tr u r) (hF : 10000 < F) : ∀ (f s : Nat) (a b c' : Int32), s + f = t → ∀ G, f < G → ∃ a' b' c'', lp (fun (s : Int32 × Int32 × rg_U) => g_X10_done_l37 F (nI t) c s.1 s.2.1 s.2.2) G (nI (dnC u r c s), nI s, sX u a b c' (nI r) (nI (rpm u r s).2) (rpm u r s).1) = some (nI (dnC u r c t), sX u a' b' c'' (nI r) (nI (rpm u r t).2) (rpm u r t).1)
  | f, s, a, b, c', hf, 0, hG => by omega
  | 0, s, a, b, c', hf, G + 1, hG => by
    have e : s = t := by omega
    subst e
    refine ⟨a, b, c', lp_r ?_⟩
    unfold g_X10_done_l37
    dsimp only
    rw [if_pos (nI_le (Nat.le_refl _) (by have := Tr3 h.1 ha; omega))]
  | f + 1, s, a, b, c', hf, G + 1, hG => by
    have hro := h.1.2.2.2.2.1 r ha
    have hT3 := Tr3 h.1 ha
    obtain ⟨a1, b1, c1, e⟩ := m_simStep (F := F) (a := a) (b := b) (c := c') (act5 h.1.1.2.1 ha) hro.1 hro.2.2.2.2.2.2.1.1 (show s < Tr u r by omega) hF
    have hb : g_X10_done_l37 F (nI t) c (nI (dnC u r c s)) (nI s) (sX u a b c' (nI r) (nI (rpm u r s).2) (rpm u r s).1) = some (.inl (nI (dnC u r c (s + 1)), nI (s + 1), sX u a1 b1 c1 (nI r) (nI (rpm u r (s + 1)).2) (rpm u r (s + 1)).1)) := by
      unfold g_X10_done_l37 g_X10_done_j61
      rw [if_neg (nI_ge (by omega) (by omega)), ck_t (show inb 120 134 by decide), show rA (sX u a b c' (nI r) (nI (rpm u r s).2) (rpm u r s).1) 31 120 = (rpm u r s).1 120 from congrFun sX_A 120, show g_X10_simStep F (sX u a b c' (nI r) (nI (rpm u r s).2) (rpm u r s).1) = some (sX u a1 b1 c1 (nI r) (nI (rpm u r (s + 1)).2) (rpm u r (s + 1)).1) from e, ob_i, ob_i, nI_1]
      show _ = some (Sum.inl (nI (dnC u r c s + if (rpm u r s).1 120 = c then 1 else 0), _, _))
      by_cases z : (rpm u r s).1 120 = c
      · rw [if_pos z, if_pos z, show g_X10_one 1 = nI 1 from rfl, nI_add]
      · rw [if_neg z, if_neg z, show g_X10_one 0 = nI 0 from rfl, nI_add]
    rw [lp_l (body := fun (s : Int32 × Int32 × rg_U) => g_X10_done_l37 F (nI t) c s.1 s.2.1 s.2.2) (s := (nI (dnC u r c s), nI s, sX u a b c' (nI r) (nI (rpm u r s).2) (rpm u r s).1)) hb]
    exact m_donel h ha ht hF f (s + 1) a1 b1 c1 (by omega) G (by omega)
theorem m_done {F K W : Nat} {x y : Int32} {u : rg_U} (h : okM u K W) (hF : 10000 < F) : (¬ (isTm u x ∧ ¬ g_X10_isIn y 0 64 = 0) ∧ g_X10_done F x y u = some (-2, u)) ∨ ∃ t u', act u K (aR u) ∧ u.2.1 5 (aR u) = 1 ∧ t ≤ Tr u (aR u) ∧ x = nI t ∧ ¬ g_X10_isIn y 0 64 = 0 ∧ g_X10_done F x y u = some (nI (dnC u (aR u) y t), u') ∧ okM u' K W ∧ coreEq u u' := by
  unfold g_X10_done
  rcases m_time (F := F) (x := x) h.1 with ⟨q1, q2⟩ | ⟨t, q1, q2, q3, q4, rfl⟩
  · rw [q1, ob_i, if_pos rfl]
    exact Or.inl ⟨fun w => q2 w.1, rfl⟩
  rw [q1, ob_i, if_neg one_n0]
  by_cases qy : g_X10_isIn y 0 64 = 0
  · rw [if_pos qy]; exact Or.inl ⟨fun w => w.2 qy, rfl⟩
  have hro := h.1.2.2.2.2.1 _ q2
  obtain ⟨a, b, c, e⟩ := m_simBegins (F := F) (act5 h.1.1.2.1 q2) hro.1 hro.2.2.2.2.2.2.1.1 h.2.2.2.2.1 hF
  obtain ⟨a1, b1, c1, e1⟩ := m_donel (c := y) h q2 q4 hF t 0 a b c (by omega) F (by have := Tr3 h.1 q2; omega)
  rw [if_neg qy, m_ask h.1, ob_i, e, ob_i, show lp (fun (s : Int32 × Int32 × rg_U) => g_X10_done_l37 F (nI t) y s.1 s.2.1 s.2.2) F ((0 : Int32), (0 : Int32), sX u a b c (nI (aR u)) (nI (rp (Pm u (aR u)) (Lm u (aR u)) (nr u (aR u)) 0).2) (rp (Pm u (aR u)) (Lm u (aR u)) (nr u (aR u)) 0).1) = _ from e1, ob_i]
  exact Or.inr ⟨t, _, q2, q3, q4, rfl, qy, rfl, ⟨core_eq coreEq_sX h.1, simM_lay h.1 h.2 q2 q4⟩, coreEq_sX⟩
/-- the time of the x-th change from the time k on, or how many there are -/
def hsF (R : Nat → Int32) (x : Int32) : Nat → Nat → Int32 → Nat → Nat ⊕ Nat
  | 0, c, _, _ => .inr c
  | f + 1, c, l, k => if R k = l then hsF R x f c l (k + 1) else if nI c = x then .inl k else hsF R x f (c + 1) (R k) (k + 1)
theorem hsF_lt {R : Nat → Int32} {x : Int32} : ∀ f c l k j, hsF R x f c l k = .inl j → j < k + f
  | 0, c, l, k, j, h => by cases h
  | f + 1, c, l, k, j, h => by
    unfold hsF at h
    by_cases q : R k = l
    · rw [if_pos q] at h
      have := hsF_lt f c l (k + 1) j h
      omega
    · rw [if_neg q] at h
      by_cases z : nI c = x
      · rw [if_pos z] at h
        have := Sum.inl.inj h
        omega
      · rw [if_neg z] at h
        have := hsF_lt f (c + 1) (R k) (k + 1) j h
        omega
theorem m_histl {F K W r p : Nat} {x y : Int32} {u : rg_U} (ha : act u K r) (hp : p < 40) (hF : 10000 < F) : ∀ (f c k : Nat) (l : Int32) (v : rg_U), coreEq u v → okM v K W → f + k = Tr u r + 1 → ∀ G, f < G → ∃ w, lp (fun (s : Int32 × Int32 × Int32 × rg_U) => g_X10_history_l61 F (nI p) x y (nI r) s.1 s.2.1 s.2.2.1 s.2.2.2) G (nI c, l, nI k, v) = some (match hsF (fun t => (rpm u r t).1 (80 + p)) x f c l k with | .inl j => Sum.inl (nI j, w) | .inr c => Sum.inr (nI c, w)) ∧ coreEq u w ∧ okM w K W ∧ ∀ j, hsF (fun t => (rpm u r t).1 (80 + p)) x f c l k = .inl j → w.2.1 31 = (rpm u r j).1
  | f, c, k, l, v, hv, hok, hf, 0, hG => by omega
  | 0, c, k, l, v, hv, hok, hf, G + 1, hG => by
    obtain ⟨e1, e2, e3, e5⟩ := eq_c0 (r := r) hv
    have hav : act v K r := act_0 hv ha
    have hT3 := Tr3 hok.1 hav
    refine ⟨v, lp_r ?_, hv, hok, fun j hj => by cases hj⟩
    unfold g_X10_history_l61
    dsimp only
    rw [ck_t (inb_nI (act5 hok.1.1.2.1 hav) (by decide)), rA_nI (by have := act5 hok.1.1.2.1 hav; omega), (hok.1.2.2.2.2.1 r hav).2.1, if_pos (nI_lt (by omega) (by omega))]
    rfl
  | f + 1, c, k, l, v, hv, hok, hf, G + 1, hG => by
    obtain ⟨e1, e2, e3, e5⟩ := eq_c0 (r := r) hv
    have hav : act v K r := act_0 hv ha
    have hT3 := Tr3 hok.1 hav
    obtain ⟨w, g1, g2, g3, g4⟩ := lay_more (t := k) hok hav (by omega) hF
    rw [e1] at g4
    have hb : g_X10_history_l61 F (nI p) x y (nI r) (nI c) l (nI k) v = if (rpm u r k).1 (80 + p) = l then some (.inl (nI c, l, nI (k + 1), w)) else if nI c = x then some (.inr (Sum.inl (nI k, w))) else some (.inl (nI (c + 1), (rpm u r k).1 (80 + p), nI (k + 1), w)) := by
      unfold g_X10_history_l61 g_X10_history_j148
      rw [ck_t (inb_nI (act5 hok.1.1.2.1 hav) (by decide)), rA_nI (by have := act5 hok.1.1.2.1 hav; omega), (hok.1.2.2.2.2.1 r hav).2.1, if_neg (nI_nlt (by omega) (by omega)), g1, ob_i, c80, ck_t (inb_nI (by omega) (by decide)), ck_t (inb_nI (by omega) (by decide)), rA_nI (by omega), g4, nI_1, nI_1]
    unfold hsF
    have hcw := coreEq_t hv g2
    by_cases q : (rpm u r k).1 (80 + p) = l
    · rw [if_pos q] at hb
      rw [lp_l (body := fun (s : Int32 × Int32 × Int32 × rg_U) => g_X10_history_l61 F (nI p) x y (nI r) s.1 s.2.1 s.2.2.1 s.2.2.2) (s := (nI c, l, nI k, v)) hb, if_pos q]
      exact m_histl ha hp hF f c (k + 1) l w hcw g3 (by omega) G (by omega)
    · rw [if_neg q] at hb
      rw [if_neg q]
      by_cases z : nI c = x
      · rw [if_pos z] at hb
        rw [lp_r (body := fun (s : Int32 × Int32 × Int32 × rg_U) => g_X10_history_l61 F (nI p) x y (nI r) s.1 s.2.1 s.2.2.1 s.2.2.2) (s := (nI c, l, nI k, v)) hb, if_pos z]
        exact ⟨w, rfl, hcw, g3, fun j hj => by rw [← Sum.inl.inj hj]; exact g4⟩
      · rw [if_neg z] at hb
        rw [lp_l (body := fun (s : Int32 × Int32 × Int32 × rg_U) => g_X10_history_l61 F (nI p) x y (nI r) s.1 s.2.1 s.2.2.1 s.2.2.2) (s := (nI c, l, nI k, v)) hb, if_neg z]
        exact m_histl ha hp hF f (c + 1) (k + 1) _ w hcw g3 (by omega) G (by omega)
def hiA (u : rg_U) (r p : Nat) (x y : Int32) : Int32 := match hsF (fun t => (rpm u r t).1 (80 + p)) x (Tr u r + 1) 0 0 0 with
  | .inl k => if y = 0 then nI k else if y = 1 then (rpm u r k).1 p else (rpm u r k).1 (40 + p)
  | .inr c => if x = -1 then nI c else -1000001
def hiW (x y z : Int32) : Prop := ¬ g_X10_isPlace x = 0 ∧ (y = -1 ∨ ¬ g_X10_isIn z 0 2 = 0) ∧ -1 ≤ y
theorem m_history {F K W : Nat} {x y z : Int32} {u : rg_U} (h : okM u K W) (hF : 10000 < F) : (¬ (u.2.1 5 (aR u) = 1 ∧ hiW x y z) ∧ g_X10_history F x y z u = some (-1000001, u)) ∨ ∃ p u', act u K (aR u) ∧ u.2.1 5 (aR u) = 1 ∧ hiW x y z ∧ p < 40 ∧ x = nI p ∧ g_X10_history F x y z u = some (hiA u (aR u) p y z, u') ∧ okM u' K W ∧ coreEq u u' := by
  obtain ⟨h5, hr⟩ := aR_ok h.1
  unfold g_X10_history
  rw [m_ask h.1, ob_i, ck_t (inb_nI h5 (by decide)), rA_nI (by omega)]
  rcases hr with q | ⟨q, ha⟩
  · rw [if_pos q]
    refine Or.inl ⟨fun w => ?_, rfl⟩
    have := w.1
    rw [q] at this
    exact absurd this (by decide)
  rw [if_neg (show ¬ u.2.1 5 (aR u) = 0 by rw [q]; decide)]
  by_cases qp : g_X10_isPlace x = 0
  · rw [if_pos qp]; exact Or.inl ⟨fun w => w.2.1 qp, rfl⟩
  rw [if_neg qp]
  obtain ⟨p, hp, rfl⟩ := isPl qp
  have key : (y = -1 ∨ ¬ g_X10_isIn z 0 2 = 0) → (¬ (u.2.1 5 (aR u) = 1 ∧ hiW (nI p) y z) ∧ g_X10_history_j37 F (nI p) y z (nI (aR u)) u = some (-1000001, u)) ∨ ∃ p' u', act u K (aR u) ∧ u.2.1 5 (aR u) = 1 ∧ hiW (nI p) y z ∧ p' < 40 ∧ nI p = nI p' ∧ g_X10_history_j37 F (nI p) y z (nI (aR u)) u = some (hiA u (aR u) p' y z, u') ∧ okM u' K W ∧ coreEq u u' := by
    intro hyz
    unfold g_X10_history_j37
    by_cases qy : -1 ≤ y
    · rw [if_pos qy]
      obtain ⟨v, b1, b2, b3, -⟩ := beg_more h ha hF
      obtain ⟨w, e1, e2, e3, e4⟩ := m_histl (x := y) (y := z) ha hp hF (Tr u (aR u) + 1) 0 0 0 v b2 b3 (by omega) F (by have := Tr3 h.1 ha; omega)
      rw [b1, ob_i, show lp (fun (s : Int32 × Int32 × Int32 × rg_U) => g_X10_history_l61 F (nI p) y z (nI (aR u)) s.1 s.2.1 s.2.2.1 s.2.2.2) F ((0 : Int32), (0 : Int32), (0 : Int32), v) = _ from e1, ob_i]
      refine Or.inr ⟨p, w, ha, q, ⟨qp, hyz, qy⟩, hp, rfl, ?_, e3, e2⟩
      unfold hiA
      cases ec : hsF (fun t => (rpm u (aR u) t).1 (80 + p)) y (Tr u (aR u) + 1) 0 0 0 with
      | inr c =>
        show (if y = -1 then some (nI c, w) else some (-1000001, w)) = some ((if y = -1 then nI c else -1000001), w)
        by_cases y1 : y = -1
        · rw [if_pos y1, if_pos y1]
        · rw [if_neg y1, if_neg y1]
      | inl k =>
        show (if z = 0 then some (nI k, w) else if z = 1 then (ck (inb (0 + nI p) 134) (some ((rA w 31 (0 + nI p)), w))) else (ck (inb (40 + nI p) 134) (some ((rA w 31 (40 + nI p)), w)))) = some ((if z = 0 then nI k else if z = 1 then (rpm u (aR u) k).1 p else (rpm u (aR u) k).1 (40 + p)), w)
        rw [c0, c40, ck_t (inb_nI (by omega) (by decide)), ck_t (inb_nI (by omega) (by decide)), rA_nI (by omega), rA_nI (by omega), e4 k ec]
        by_cases z0 : z = 0
        · rw [if_pos z0, if_pos z0]
        rw [if_neg z0, if_neg z0]
        by_cases z1 : z = 1
        · rw [if_pos z1, if_pos z1]
        rw [if_neg z1, if_neg z1]
    · rw [if_neg qy]
      exact Or.inl ⟨fun w => qy w.2.2.2, rfl⟩
  by_cases y1 : y = -1
  · rw [if_pos y1]; exact key (Or.inl y1)
  rw [if_neg y1]
  by_cases z2 : g_X10_isIn z 0 2 = 0
  · rw [if_pos z2]
    exact Or.inl ⟨fun w => w.2.2.1.elim y1 (fun q => q z2), rfl⟩
  rw [if_neg z2]
  exact key (Or.inr z2)
