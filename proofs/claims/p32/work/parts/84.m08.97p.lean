section W_30
-- 97p.read
/-! call, log, held, look of the reference -/
def caA (u : rg_U) (x y : Int32) : Int32 := if u.2.1 5 (aR u) = 0 then -1 else if x = -1 then nI (Cr u (aR u)) else if g_X10_isIn x 0 (nI (Cr u (aR u)) - 1) = 0 then -1 else if y = 0 then u.2.1 16 (100 * aR u + tn x) else if y = 1 then u.2.1 17 (100 * aR u + tn x) else if y = 2 then u.2.1 18 (100 * aR u + tn x) else -1
theorem in_bel {x : Int32} {n : Nat} (h : ¬ g_X10_isIn x 0 (nI n - 1) = 0) (hn : n < 2 ^ 31) : ∃ i, i < n ∧ x = nI i := by
  obtain ⟨k, e, k1, k2⟩ := in_nat h (by decide)
  rcases Nat.eq_zero_or_pos n with z | z
  · subst z
    have : (nI 0 - 1 : Int32).toInt = -1 := by decide
    omega
  · rw [show nI n - 1 = nI (n - 1) from nI_sub (a := n) (b := 1) (by omega), nI_toInt (by omega)] at k2
    exact ⟨k, by omega, e⟩
theorem m_call {F K W : Nat} {x y : Int32} {u : rg_U} (h : coreM u K W) : g_X10_call F x y u = some (caA u x y) := by
  obtain ⟨h5, hr⟩ := aR_ok h
  unfold g_X10_call caA
  rw [m_ask h, ob_i, ck_t (inb_nI h5 (by decide)), ck_t (inb_nI h5 (by decide)), ck_t (inb_nI h5 (by decide)), rA_nI (by omega), rA_nI (by omega)]
  rcases hr with q | ⟨q, ha⟩
  · rw [if_pos q, if_pos q]
  have q0 : ¬ u.2.1 5 (aR u) = 0 := by rw [q]; decide
  rw [if_neg q0, if_neg q0]
  have hro := h.2.2.2.2.1 _ ha
  have hC := hro.2.2.2.2.2.2.2.2.1
  rw [hro.2.2.2.2.1]
  by_cases x1 : x = -1
  · rw [if_pos x1, if_pos x1]
  rw [if_neg x1, if_neg x1]
  by_cases x2 : g_X10_isIn x 0 (nI (Cr u (aR u)) - 1) = 0
  · rw [if_pos x2, if_pos x2]
  rw [if_neg x2, if_neg x2]
  obtain ⟨i, hi, rfl⟩ := in_bel x2 (by omega)
  rw [show (100 : Int32) * nI (aR u) + nI i = nI (100 * aR u + i) by rw [show (100 : Int32) * nI (aR u) = nI (100 * aR u) from pk_mul 100 _, nI_add], ck_t (inb_nI (by omega) (by decide)), ck_t (inb_nI (by omega) (by decide)), ck_t (inb_nI (by omega) (by decide)), rA_nI (by omega), rA_nI (by omega), rA_nI (by omega), tnn (by omega)]
  by_cases y0 : y = 0
  · rw [if_pos y0, if_pos y0]
  rw [if_neg y0, if_neg y0]
  by_cases y1 : y = 1
  · rw [if_pos y1, if_pos y1]
  rw [if_neg y1, if_neg y1]
  by_cases y2 : y = 2
  · rw [if_pos y2, if_pos y2]
  rw [if_neg y2, if_neg y2]
def lgA (u : rg_U) (x y : Int32) : Int32 := if u.2.1 5 (aR u) = 0 then -1000001 else if x = -1 then nI (nr u (aR u)) else if g_X10_isIn x 0 (nI (nr u (aR u)) - 1) = 0 then -1000001 else if y = 0 then u.2.1 10 (800 * aR u + tn x) else if y = 1 then u.2.1 11 (800 * aR u + tn x) else if y = 2 then u.2.1 12 (800 * aR u + tn x) else if y = 3 then u.2.1 13 (800 * aR u + tn x) else if y = 4 then u.2.1 14 (800 * aR u + tn x) else -1000001
theorem m_log {F K W : Nat} {x y : Int32} {u : rg_U} (h : coreM u K W) : g_X10_log F x y u = some (lgA u x y) := by
  obtain ⟨h5, hr⟩ := aR_ok h
  unfold g_X10_log lgA
  rw [m_ask h, ob_i, ck_t (inb_nI h5 (by decide)), ck_t (inb_nI h5 (by decide)), ck_t (inb_nI h5 (by decide)), rA_nI (by omega), rA_nI (by omega)]
  rcases hr with q | ⟨q, ha⟩
  · rw [if_pos q, if_pos q]
  have q0 : ¬ u.2.1 5 (aR u) = 0 := by rw [q]; decide
  rw [if_neg q0, if_neg q0]
  have hro := h.2.2.2.2.1 _ ha
  have hC := hro.2.2.2.2.2.2.1.1.2.2.1
  rw [hro.1]
  by_cases x1 : x = -1
  · rw [if_pos x1, if_pos x1]
  rw [if_neg x1, if_neg x1]
  by_cases x2 : g_X10_isIn x 0 (nI (nr u (aR u)) - 1) = 0
  · rw [if_pos x2, if_pos x2]
  rw [if_neg x2, if_neg x2]
  obtain ⟨i, hi, rfl⟩ := in_bel x2 (by omega)
  rw [show (800 : Int32) * nI (aR u) + nI i = nI (800 * aR u + i) by rw [show (800 : Int32) * nI (aR u) = nI (800 * aR u) from pk_mul 800 _, nI_add], ck_t (inb_nI (by omega) (by decide)), ck_t (inb_nI (by omega) (by decide)), ck_t (inb_nI (by omega) (by decide)), ck_t (inb_nI (by omega) (by decide)), ck_t (inb_nI (by omega) (by decide)), rA_nI (by omega), rA_nI (by omega), rA_nI (by omega), rA_nI (by omega), rA_nI (by omega), tnn (by omega)]
  by_cases y0 : y = 0
  · rw [if_pos y0, if_pos y0]
  rw [if_neg y0, if_neg y0]
  by_cases y1 : y = 1
  · rw [if_pos y1, if_pos y1]
  rw [if_neg y1, if_neg y1]
  by_cases y2 : y = 2
  · rw [if_pos y2, if_pos y2]
  rw [if_neg y2, if_neg y2]
  by_cases y3 : y = 3
  · rw [if_pos y3, if_pos y3]
  rw [if_neg y3, if_neg y3]
  by_cases y4 : y = 4
  · rw [if_pos y4, if_pos y4]
  rw [if_neg y4, if_neg y4]
/-- the number of the x-th of what is held, from the number k on with c before it -/
def hlF (H : Nat → Int32) (x : Int32) : Nat → Nat → Nat → Option Nat
  | 0, _, _ => none
  | f + 1, c, k => if H k = 0 then hlF H x f c (k + 1) else if nI c = x then some k else hlF H x f (c + 1) (k + 1)
theorem hlF_lt {H : Nat → Int32} {x : Int32} : ∀ f c k j, hlF H x f c k = some j → j < k + f ∧ k ≤ j
  | 0, c, k, j, h => by cases h
  | f + 1, c, k, j, h => by
    unfold hlF at h
    by_cases q : H k = 0
    · rw [if_pos q] at h
      have := hlF_lt f c (k + 1) j h
      omega
    · rw [if_neg q] at h
      by_cases z : nI c = x
      · rw [if_pos z] at h
        have := Option.some.inj h
        omega
      · rw [if_neg z] at h
        have := hlF_lt f (c + 1) (k + 1) j h
        omega
theorem m_heldl {F r : Nat} {x y : Int32} {u : rg_U} (hr : r < 5) : ∀ (f c k : Nat), f + k = 3001 → ∀ G, f < G → lp (fun (s : Int32 × Int32) => g_X10_held_l33 F x y (nI r) u s.1 s.2) G (nI c, nI k) = some (match hlF (Hm u r) x f c k with | none => Sum.inr () | some j => Sum.inl (nI j))
  | f, c, k, hf, 0, hG => by omega
  | 0, c, k, hf, G + 1, hG => by
    refine lp_r ?_
    unfold g_X10_held_l33
    dsimp only
    rw [if_pos (show (3000 : Int32) < nI k from nI_lt (a := 3000) (by omega) (by omega))]
    rfl
  | f + 1, c, k, hf, G + 1, hG => by
    have hb : g_X10_held_l33 F x y (nI r) u (nI c) (nI k) = if Hm u r k = 0 then some (.inl (nI c, nI (k + 1))) else if nI c = x then some (.inr (Sum.inl (nI k))) else some (.inl (nI (c + 1), nI (k + 1))) := by
      unfold g_X10_held_l33 g_X10_held_j117
      rw [if_neg (show ¬ (3000 : Int32) < nI k from nI_nlt (a := 3000) (b := k) (by omega) (by decide)), heldAt_nI, ck_t (inb_nI (by omega) (by decide)), rA_nI (by omega), nI_1, nI_1, ← Hm_k (by omega)]
    unfold hlF
    by_cases q : Hm u r k = 0
    · rw [if_pos q] at hb
      rw [lp_l (body := fun (s : Int32 × Int32) => g_X10_held_l33 F x y (nI r) u s.1 s.2) (s := (nI c, nI k)) hb, if_pos q]
      exact m_heldl hr f c (k + 1) (by omega) G (by omega)
    · rw [if_neg q] at hb
      rw [if_neg q]
      by_cases z : nI c = x
      · rw [if_pos z] at hb
        rw [lp_r (body := fun (s : Int32 × Int32) => g_X10_held_l33 F x y (nI r) u s.1 s.2) (s := (nI c, nI k)) hb, if_pos z]
      · rw [if_neg z] at hb
        rw [lp_l (body := fun (s : Int32 × Int32) => g_X10_held_l33 F x y (nI r) u s.1 s.2) (s := (nI c, nI k)) hb, if_neg z]
        exact m_heldl hr f (c + 1) (k + 1) (by omega) G (by omega)
def heA (u : rg_U) (x y : Int32) : Int32 := if u.2.1 5 (aR u) = 0 then -1 else if x = -1 then nI (cH (Hm u (aR u)) 3001) else match hlF (Hm u (aR u)) x 3001 0 0 with
  | none => -1
  | some k => if y = 0 then nI (k * Ur u (aR u)) else if y = 1 then (if k = 0 then -1 else nI (gw k (Dr u (aR u)) * Ur u (aR u))) else -1
theorem m_held {F K W : Nat} {x y : Int32} {u : rg_U} (h : coreM u K W) (hF : 10000 < F) : g_X10_held F x y u = some (heA u x y) := by
  obtain ⟨h5, hr⟩ := aR_ok h
  unfold g_X10_held heA
  rw [m_ask h, ob_i, ck_t (inb_nI h5 (by decide)), rA_nI (by omega)]
  rcases hr with q | ⟨q, ha⟩
  · rw [if_pos q, if_pos q]
  have q0 : ¬ u.2.1 5 (aR u) = 0 := by rw [q]; decide
  rw [if_neg q0, if_neg q0]
  have hro := h.2.2.2.2.1 _ ha
  by_cases x1 : x = -1
  · rw [if_pos x1, if_pos x1, m_heldMany h5 hF, ob_i]
  rw [if_neg x1, if_neg x1, show lp (fun (s : Int32 × Int32) => g_X10_held_l33 F x y (nI (aR u)) u s.1 s.2) F ((0 : Int32), (0 : Int32)) = _ from m_heldl (F := F) (x := x) (y := y) h5 3001 0 0 rfl F (by omega), ob_i]
  cases e : hlF (Hm u (aR u)) x 3001 0 0 with
  | none => rfl
  | some k =>
    have hk := (hlF_lt 3001 0 0 k e).1
    show (if y = 0 then _ else _) = some (if y = 0 then _ else _)
    rw [ck_t (inb_nI h5 (by decide)), rA_nI (by omega), hro.2.2.1, pk_mul]
    by_cases y0 : y = 0
    · rw [if_pos y0, if_pos y0]
    rw [if_neg y0, if_neg y0]
    by_cases y1 : y = 1
    · rw [if_pos y1, if_pos y1]
      by_cases k0 : k = 0
      · rw [if_pos (show nI k ≤ 0 by rw [k0]; decide), if_pos k0]
      · rw [if_neg (show ¬ nI k ≤ 0 from nI_ge (a := 0) (b := k) (by omega) (by omega)), if_neg k0, ck_t (inb_nI h5 (by decide)), rA_nI (by omega), hro.2.2.2.1, m_goesWith (by omega) (by omega) hro.2.2.2.2.2.1.2.2.2 (by omega), ob_i, ck_t (inb_nI h5 (by decide)), pk_mul]
    · rw [if_neg y1, if_neg y1]
end W_30
section W_31
-- 97q.read
/-! look, done, history of the reference -/
def wtB (u : rg_U) (a : Nat) : Nat → Int32
  | 0 => 0
  | k + 1 => wtB u a k ||| (if u.2.1 30 (a + k) = 0 then 0 else dx_shl 1 (nI k))
theorem m_watchedOf {F a n : Nat} {u : rg_U} (han : a + n ≤ 40) (hF : 10000 < F) : g_X10_watchedOf F (nI a) (nI n) u = some (wtB u a n) := by
  have h := lp_up (body := fun (s : Int32 × Int32) => g_X10_watchedOf_l5 F (nI a) (nI n) u s.1 s.2) (fun k => (wtB u a k, nI k)) n (wtB u a n) (fun k hk => by
    show g_X10_watchedOf_l5 F (nI a) (nI n) u (wtB u a k) (nI k) = _
    unfold g_X10_watchedOf_l5 g_X10_watchedOf_j32
    rw [if_neg (nI_ge hk (by omega)), nI_add, ck_t (inb_nI (by omega) (by decide)), rA_nI (by omega), nI_1]
    show _ = some (Sum.inl (wtB u a k ||| (if u.2.1 30 (a + k) = 0 then 0 else dx_shl 1 (nI k)), nI (k + 1)))
    by_cases z : u.2.1 30 (a + k) = 0
    · rw [if_pos z, if_pos z]
    · rw [if_neg z, if_neg z]) (by
    show g_X10_watchedOf_l5 F (nI a) (nI n) u _ (nI n) = _
    unfold g_X10_watchedOf_l5
    rw [if_pos (nI_le (Nat.le_refl _) (by omega))]) F 0 (Nat.zero_le _) (by omega)
  unfold g_X10_watchedOf
  rw [show lp (fun (s : Int32 × Int32) => g_X10_watchedOf_l5 F (nI a) (nI n) u s.1 s.2) F ((0 : Int32), (0 : Int32)) = _ from h, ob_i]
def ofA (u : rg_U) (W r : Nat) (x : Int32) : Int32 := if x = 0 then u.2.1 21 r else if x = 1 then (if r = 4 then stM u W else u.2.1 22 r) else if x = 2 then u.2.1 25 r else if x = 3 then u.2.1 26 r else if x = 4 then u.2.1 23 r else if x = 5 then u.2.1 24 r else u.2.1 27 r
theorem m_ofRun {F K W r : Nat} {x : Int32} {u : rg_U} (h : coreM u K W) (ha : act u K r) : g_X10_ofRun F (nI r) x u = some (ofA u W r x) := by
  have h5 := act5 h.1.2.1 ha
  have hK := h.1.2.1
  unfold g_X10_ofRun ofA
  simp only [ck_t (inb_nI h5 (show 5 < 2 ^ 31 by decide)), rA_nI (show r < 2 ^ 31 by omega)]
  by_cases x0 : x = 0
  · rw [if_pos x0, if_pos x0]
  rw [if_neg x0, if_neg x0]
  by_cases x1 : x = 1
  · rw [if_pos x1, if_pos x1]
    by_cases r4 : r = 4
    · rw [if_pos (show nI r = 4 by rw [r4]; rfl), if_pos r4]
      have : u.2.1 5 4 = 1 := by
        rcases ha with z | z
        · omega
        · exact z.2
      rw [m_status h this, ob_i]
    · rw [if_neg (show ¬ nI r = 4 from fun z => r4 (nI_inj (a := r) (b := 4) (by omega) (by omega) z)), if_neg r4]
  rw [if_neg x1, if_neg x1]
  by_cases x2 : x = 2
  · rw [if_pos x2, if_pos x2]
  rw [if_neg x2, if_neg x2]
  by_cases x3 : x = 3
  · rw [if_pos x3, if_pos x3]
  rw [if_neg x3, if_neg x3]
  by_cases x4 : x = 4
  · rw [if_pos x4, if_pos x4]
  rw [if_neg x4, if_neg x4]
  by_cases x5 : x = 5
  · rw [if_pos x5, if_pos x5]
  rw [if_neg x5, if_neg x5]
def loA (u : rg_U) (W : Nat) (x : Int32) : Int32 := if g_X10_isIn x 0 6 = 0 then (if x = 7 then u.1 29 else if x = 8 then u.1 33 else if x = 9 then u.1 34 else if x = 10 then u.1 35 else if x = 11 then wtB u 0 8 else if x = 12 then wtB u 8 32 else -1000001) else if u.2.1 5 (aR u) = 0 then 0 else ofA u W (aR u) x
theorem m_look {F K W : Nat} {x : Int32} {u : rg_U} (h : coreM u K W) (hF : 10000 < F) : g_X10_look F x u = some (loA u W x) := by
  obtain ⟨h5, hr⟩ := aR_ok h
  unfold g_X10_look loA
  by_cases q : g_X10_isIn x 0 6 = 0
  · rw [if_pos q, if_pos q, show g_X10_watchedOf F 0 8 u = some (wtB u 0 8) from m_watchedOf (a := 0) (n := 8) (by omega) hF, show g_X10_watchedOf F 8 32 u = some (wtB u 8 32) from m_watchedOf (a := 8) (n := 32) (by omega) hF, ob_i, ob_i]
    by_cases x0 : x = 7
    · rw [if_pos x0, if_pos x0]; rfl
    rw [if_neg x0, if_neg x0]
    by_cases x1 : x = 8
    · rw [if_pos x1, if_pos x1]; rfl
    rw [if_neg x1, if_neg x1]
    by_cases x2 : x = 9
    · rw [if_pos x2, if_pos x2]; rfl
    rw [if_neg x2, if_neg x2]
    by_cases x3 : x = 10
    · rw [if_pos x3, if_pos x3]; rfl
    rw [if_neg x3, if_neg x3]
    by_cases x4 : x = 11
    · rw [if_pos x4, if_pos x4]
    rw [if_neg x4, if_neg x4]
    by_cases x5 : x = 12
    · rw [if_pos x5, if_pos x5]
    rw [if_neg x5, if_neg x5]
  · rw [if_neg q, if_neg q, m_ask h, ob_i, ob_i, ck_t (inb_nI h5 (by decide)), rA_nI (by omega)]
    rcases hr with z | ⟨z, ha⟩
    · rw [if_pos z, if_pos z]
    · have z0 : ¬ u.2.1 5 (aR u) = 0 := by rw [z]; decide
      rw [if_neg z0, if_neg z0, m_ofRun h ha, ob_i]
/-- how often the counter was c before t -/
def dnC (u : rg_U) (r : Nat) (c : Int32) : Nat → Nat
  | 0 => 0
  | t + 1 => dnC u r c t + (if (rpm u r t).1 120 = c then 1 else 0)
theorem m_donel {F K W r t : Nat} {c : Int32} {u : rg_U} (h : okM u K W) (ha : act u K r) (ht : t ≤ Tr u r) (hF : 10000 < F) : ∀ (f s : Nat) (a b c' : Int32), s + f = t → ∀ G, f < G → ∃ a' b' c'', lp (fun (s : Int32 × Int32 × rg_U) => g_X10_done_l37 F (nI t) c s.1 s.2.1 s.2.2) G (nI (dnC u r c s), nI s, sX u a b c' (nI r) (nI (rpm u r s).2) (rpm u r s).1) = some (nI (dnC u r c t), sX u a' b' c'' (nI r) (nI (rpm u r t).2) (rpm u r t).1)
  | f, s, a, b, c', hf, 0, hG => by omega
  | 0, s, a, b, c', hf, G + 1, hG => by
    have e : s = t := by omega
    subst e
    refine ⟨a, b, c', lp_r ?_⟩
    unfold g_X10_done_l37
    dsimp only
    rw [if_pos (nI_le (Nat.le_refl _) (by have := Tr3 h.1 ha; omega))]
  | f + 1, s, a, b, c', hf, G + 1, hG => by
    have hro := h.1.2.2.2.2.1 r ha
    have hT3 := Tr3 h.1 ha
    obtain ⟨a1, b1, c1, e⟩ := m_simStep (F := F) (a := a) (b := b) (c := c') (act5 h.1.1.2.1 ha) hro.1 hro.2.2.2.2.2.2.1.1 (show s < Tr u r by omega) hF
    have hb : g_X10_done_l37 F (nI t) c (nI (dnC u r c s)) (nI s) (sX u a b c' (nI r) (nI (rpm u r s).2) (rpm u r s).1) = some (.inl (nI (dnC u r c (s + 1)), nI (s + 1), sX u a1 b1 c1 (nI r) (nI (rpm u r (s + 1)).2) (rpm u r (s + 1)).1)) := by
      unfold g_X10_done_l37 g_X10_done_j61
      rw [if_neg (nI_ge (by omega) (by omega)), ck_t (show inb 120 134 by decide), show rA (sX u a b c' (nI r) (nI (rpm u r s).2) (rpm u r s).1) 31 120 = (rpm u r s).1 120 from congrFun sX_A 120, show g_X10_simStep F (sX u a b c' (nI r) (nI (rpm u r s).2) (rpm u r s).1) = some (sX u a1 b1 c1 (nI r) (nI (rpm u r (s + 1)).2) (rpm u r (s + 1)).1) from e, ob_i, ob_i, nI_1]
      show _ = some (Sum.inl (nI (dnC u r c s + if (rpm u r s).1 120 = c then 1 else 0), _, _))
      by_cases z : (rpm u r s).1 120 = c
      · rw [if_pos z, if_pos z, show g_X10_one 1 = nI 1 from rfl, nI_add]
      · rw [if_neg z, if_neg z, show g_X10_one 0 = nI 0 from rfl, nI_add]
    rw [lp_l (body := fun (s : Int32 × Int32 × rg_U) => g_X10_done_l37 F (nI t) c s.1 s.2.1 s.2.2) (s := (nI (dnC u r c s), nI s, sX u a b c' (nI r) (nI (rpm u r s).2) (rpm u r s).1)) hb]
    exact m_donel h ha ht hF f (s + 1) a1 b1 c1 (by omega) G (by omega)
theorem m_done {F K W : Nat} {x y : Int32} {u : rg_U} (h : okM u K W) (hF : 10000 < F) : (¬ (isTm u x ∧ ¬ g_X10_isIn y 0 64 = 0) ∧ g_X10_done F x y u = some (-2, u)) ∨ ∃ t u', act u K (aR u) ∧ u.2.1 5 (aR u) = 1 ∧ t ≤ Tr u (aR u) ∧ x = nI t ∧ ¬ g_X10_isIn y 0 64 = 0 ∧ g_X10_done F x y u = some (nI (dnC u (aR u) y t), u') ∧ okM u' K W ∧ coreEq u u' := by
  unfold g_X10_done
  rcases m_time (F := F) (x := x) h.1 with ⟨q1, q2⟩ | ⟨t, q1, q2, q3, q4, rfl⟩
  · rw [q1, ob_i, if_pos rfl]
    exact Or.inl ⟨fun w => q2 w.1, rfl⟩
  rw [q1, ob_i, if_neg one_n0]
  by_cases qy : g_X10_isIn y 0 64 = 0
  · rw [if_pos qy]; exact Or.inl ⟨fun w => w.2 qy, rfl⟩
  have hro := h.1.2.2.2.2.1 _ q2
  obtain ⟨a, b, c, e⟩ := m_simBegins (F := F) (act5 h.1.1.2.1 q2) hro.1 hro.2.2.2.2.2.2.1.1 h.2.2.2.2.1 hF
  obtain ⟨a1, b1, c1, e1⟩ := m_donel (c := y) h q2 q4 hF t 0 a b c (by omega) F (by have := Tr3 h.1 q2; omega)
  rw [if_neg qy, m_ask h.1, ob_i, e, ob_i, show lp (fun (s : Int32 × Int32 × rg_U) => g_X10_done_l37 F (nI t) y s.1 s.2.1 s.2.2) F ((0 : Int32), (0 : Int32), sX u a b c (nI (aR u)) (nI (rp (Pm u (aR u)) (Lm u (aR u)) (nr u (aR u)) 0).2) (rp (Pm u (aR u)) (Lm u (aR u)) (nr u (aR u)) 0).1) = _ from e1, ob_i]
  exact Or.inr ⟨t, _, q2, q3, q4, rfl, qy, rfl, ⟨core_eq coreEq_sX h.1, simM_lay h.1 h.2 q2 q4⟩, coreEq_sX⟩
/-- the time of the x-th change from the time k on, or how many there are -/
def hsF (R : Nat → Int32) (x : Int32) : Nat → Nat → Int32 → Nat → Nat ⊕ Nat
  | 0, c, _, _ => .inr c
  | f + 1, c, l, k => if R k = l then hsF R x f c l (k + 1) else if nI c = x then .inl k else hsF R x f (c + 1) (R k) (k + 1)
theorem hsF_lt {R : Nat → Int32} {x : Int32} : ∀ f c l k j, hsF R x f c l k = .inl j → j < k + f
  | 0, c, l, k, j, h => by cases h
  | f + 1, c, l, k, j, h => by
    unfold hsF at h
    by_cases q : R k = l
    · rw [if_pos q] at h
      have := hsF_lt f c l (k + 1) j h
      omega
    · rw [if_neg q] at h
      by_cases z : nI c = x
      · rw [if_pos z] at h
        have := Sum.inl.inj h
        omega
      · rw [if_neg z] at h
        have := hsF_lt f (c + 1) (R k) (k + 1) j h
        omega
theorem m_histl {F K W r p : Nat} {x y : Int32} {u : rg_U} (ha : act u K r) (hp : p < 40) (hF : 10000 < F) : ∀ (f c k : Nat) (l : Int32) (v : rg_U), coreEq u v → okM v K W → f + k = Tr u r + 1 → ∀ G, f < G → ∃ w, lp (fun (s : Int32 × Int32 × Int32 × rg_U) => g_X10_history_l61 F (nI p) x y (nI r) s.1 s.2.1 s.2.2.1 s.2.2.2) G (nI c, l, nI k, v) = some (match hsF (fun t => (rpm u r t).1 (80 + p)) x f c l k with | .inl j => Sum.inl (nI j, w) | .inr c => Sum.inr (nI c, w)) ∧ coreEq u w ∧ okM w K W ∧ ∀ j, hsF (fun t => (rpm u r t).1 (80 + p)) x f c l k = .inl j → w.2.1 31 = (rpm u r j).1
  | f, c, k, l, v, hv, hok, hf, 0, hG => by omega
  | 0, c, k, l, v, hv, hok, hf, G + 1, hG => by
    obtain ⟨e1, e2, e3, e5⟩ := eq_c0 (r := r) hv
    have hav : act v K r := act_0 hv ha
    have hT3 := Tr3 hok.1 hav
    refine ⟨v, lp_r ?_, hv, hok, fun j hj => by cases hj⟩
    unfold g_X10_history_l61
    dsimp only
    rw [ck_t (inb_nI (act5 hok.1.1.2.1 hav) (by decide)), rA_nI (by have := act5 hok.1.1.2.1 hav; omega), (hok.1.2.2.2.2.1 r hav).2.1, if_pos (nI_lt (by omega) (by omega))]
    rfl
  | f + 1, c, k, l, v, hv, hok, hf, G + 1, hG => by
    obtain ⟨e1, e2, e3, e5⟩ := eq_c0 (r := r) hv
    have hav : act v K r := act_0 hv ha
    have hT3 := Tr3 hok.1 hav
    obtain ⟨w, g1, g2, g3, g4⟩ := lay_more (t := k) hok hav (by omega) hF
    rw [e1] at g4
    have hb : g_X10_history_l61 F (nI p) x y (nI r) (nI c) l (nI k) v = if (rpm u r k).1 (80 + p) = l then some (.inl (nI c, l, nI (k + 1), w)) else if nI c = x then some (.inr (Sum.inl (nI k, w))) else some (.inl (nI (c + 1), (rpm u r k).1 (80 + p), nI (k + 1), w)) := by
      unfold g_X10_history_l61 g_X10_history_j148
      rw [ck_t (inb_nI (act5 hok.1.1.2.1 hav) (by decide)), rA_nI (by have := act5 hok.1.1.2.1 hav; omega), (hok.1.2.2.2.2.1 r hav).2.1, if_neg (nI_nlt (by omega) (by omega)), g1, ob_i, c80, ck_t (inb_nI (by omega) (by decide)), ck_t (inb_nI (by omega) (by decide)), rA_nI (by omega), g4, nI_1, nI_1]
    unfold hsF
    have hcw := coreEq_t hv g2
    by_cases q : (rpm u r k).1 (80 + p) = l
    · rw [if_pos q] at hb
      rw [lp_l (body := fun (s : Int32 × Int32 × Int32 × rg_U) => g_X10_history_l61 F (nI p) x y (nI r) s.1 s.2.1 s.2.2.1 s.2.2.2) (s := (nI c, l, nI k, v)) hb, if_pos q]
      exact m_histl ha hp hF f c (k + 1) l w hcw g3 (by omega) G (by omega)
    · rw [if_neg q] at hb
      rw [if_neg q]
      by_cases z : nI c = x
      · rw [if_pos z] at hb
        rw [lp_r (body := fun (s : Int32 × Int32 × Int32 × rg_U) => g_X10_history_l61 F (nI p) x y (nI r) s.1 s.2.1 s.2.2.1 s.2.2.2) (s := (nI c, l, nI k, v)) hb, if_pos z]
        exact ⟨w, rfl, hcw, g3, fun j hj => by rw [← Sum.inl.inj hj]; exact g4⟩
      · rw [if_neg z] at hb
        rw [lp_l (body := fun (s : Int32 × Int32 × Int32 × rg_U) => g_X10_history_l61 F (nI p) x y (nI r) s.1 s.2.1 s.2.2.1 s.2.2.2) (s := (nI c, l, nI k, v)) hb, if_neg z]
        exact m_histl ha hp hF f (c + 1) (k + 1) _ w hcw g3 (by omega) G (by omega)
def hiA (u : rg_U) (r p : Nat) (x y : Int32) : Int32 := match hsF (fun t => (rpm u r t).1 (80 + p)) x (Tr u r + 1) 0 0 0 with
  | .inl k => if y = 0 then nI k else if y = 1 then (rpm u r k).1 p else (rpm u r k).1 (40 + p)
  | .inr c => if x = -1 then nI c else -1000001
def hiW (x y z : Int32) : Prop := ¬ g_X10_isPlace x = 0 ∧ (y = -1 ∨ ¬ g_X10_isIn z 0 2 = 0) ∧ -1 ≤ y
theorem m_history {F K W : Nat} {x y z : Int32} {u : rg_U} (h : okM u K W) (hF : 10000 < F) : (¬ (u.2.1 5 (aR u) = 1 ∧ hiW x y z) ∧ g_X10_history F x y z u = some (-1000001, u)) ∨ ∃ p u', act u K (aR u) ∧ u.2.1 5 (aR u) = 1 ∧ hiW x y z ∧ p < 40 ∧ x = nI p ∧ g_X10_history F x y z u = some (hiA u (aR u) p y z, u') ∧ okM u' K W ∧ coreEq u u' := by
  obtain ⟨h5, hr⟩ := aR_ok h.1
  unfold g_X10_history
  rw [m_ask h.1, ob_i, ck_t (inb_nI h5 (by decide)), rA_nI (by omega)]
  rcases hr with q | ⟨q, ha⟩
  · rw [if_pos q]
    refine Or.inl ⟨fun w => ?_, rfl⟩
    have := w.1
    rw [q] at this
    exact absurd this (by decide)
  rw [if_neg (show ¬ u.2.1 5 (aR u) = 0 by rw [q]; decide)]
  by_cases qp : g_X10_isPlace x = 0
  · rw [if_pos qp]; exact Or.inl ⟨fun w => w.2.1 qp, rfl⟩
  rw [if_neg qp]
  obtain ⟨p, hp, rfl⟩ := isPl qp
  have key : (y = -1 ∨ ¬ g_X10_isIn z 0 2 = 0) → (¬ (u.2.1 5 (aR u) = 1 ∧ hiW (nI p) y z) ∧ g_X10_history_j37 F (nI p) y z (nI (aR u)) u = some (-1000001, u)) ∨ ∃ p' u', act u K (aR u) ∧ u.2.1 5 (aR u) = 1 ∧ hiW (nI p) y z ∧ p' < 40 ∧ nI p = nI p' ∧ g_X10_history_j37 F (nI p) y z (nI (aR u)) u = some (hiA u (aR u) p' y z, u') ∧ okM u' K W ∧ coreEq u u' := by
    intro hyz
    unfold g_X10_history_j37
    by_cases qy : -1 ≤ y
    · rw [if_pos qy]
      obtain ⟨v, b1, b2, b3, -⟩ := beg_more h ha hF
      obtain ⟨w, e1, e2, e3, e4⟩ := m_histl (x := y) (y := z) ha hp hF (Tr u (aR u) + 1) 0 0 0 v b2 b3 (by omega) F (by have := Tr3 h.1 ha; omega)
      rw [b1, ob_i, show lp (fun (s : Int32 × Int32 × Int32 × rg_U) => g_X10_history_l61 F (nI p) y z (nI (aR u)) s.1 s.2.1 s.2.2.1 s.2.2.2) F ((0 : Int32), (0 : Int32), (0 : Int32), v) = _ from e1, ob_i]
      refine Or.inr ⟨p, w, ha, q, ⟨qp, hyz, qy⟩, hp, rfl, ?_, e3, e2⟩
      unfold hiA
      cases ec : hsF (fun t => (rpm u (aR u) t).1 (80 + p)) y (Tr u (aR u) + 1) 0 0 0 with
      | inr c =>
        show (if y = -1 then some (nI c, w) else some (-1000001, w)) = some ((if y = -1 then nI c else -1000001), w)
        by_cases y1 : y = -1
        · rw [if_pos y1, if_pos y1]
        · rw [if_neg y1, if_neg y1]
      | inl k =>
        show (if z = 0 then some (nI k, w) else if z = 1 then (ck (inb (0 + nI p) 134) (some ((rA w 31 (0 + nI p)), w))) else (ck (inb (40 + nI p) 134) (some ((rA w 31 (40 + nI p)), w)))) = some ((if z = 0 then nI k else if z = 1 then (rpm u (aR u) k).1 p else (rpm u (aR u) k).1 (40 + p)), w)
        rw [c0, c40, ck_t (inb_nI (by omega) (by decide)), ck_t (inb_nI (by omega) (by decide)), rA_nI (by omega), rA_nI (by omega), e4 k ec]
        by_cases z0 : z = 0
        · rw [if_pos z0, if_pos z0]
        rw [if_neg z0, if_neg z0]
        by_cases z1 : z = 1
        · rw [if_pos z1, if_pos z1]
        rw [if_neg z1, if_neg z1]
    · rw [if_neg qy]
      exact Or.inl ⟨fun w => qy w.2.2.2, rfl⟩
  by_cases y1 : y = -1
  · rw [if_pos y1]; exact key (Or.inl y1)
  rw [if_neg y1]
  by_cases z2 : g_X10_isIn z 0 2 = 0
  · rw [if_pos z2]
    exact Or.inl ⟨fun w => w.2.2.1.elim y1 (fun q => q z2), rfl⟩
  rw [if_neg z2]
  exact key (Or.inr z2)
end W_31
section W_32
-- 97r.parts
/-! parts of the reference -/
theorem m_there {F K W : Nat} {x : Int32} {u : rg_U} (h : coreM u K W) : (g_X10_isThere F x u = some 0 ∧ ¬ ∃ r, act u K r ∧ x = (if r = 4 then -1 else nI r)) ∨ ∃ r, g_X10_isThere F x u = some 1 ∧ act u K r ∧ x = (if r = 4 then -1 else nI r) := by
  have hK := h.1.2.1
  have h4 := h.2.1.1
  unfold g_X10_isThere
  rw [show rF u 0 29 = nI K from h.1.1, show rA u 5 4 = u.2.1 5 4 from rfl, ck_t (show inb 4 5 by decide), ck_t (show g_X10_isIn x 0 (nI K - 1) = 0 ∨ g_X10_isIn x 0 (nI K - 1) = 1 from in_b)]
  by_cases x1 : x = -1
  · rw [if_pos x1, ck_t h4]
    rcases h4 with q | q
    · refine Or.inl ⟨by rw [q], fun ⟨r, hr, hx⟩ => ?_⟩
      rcases hr with z | z
      · rw [if_neg (by omega), x1] at hx
        exact nI_m1 (by omega) hx.symm
      · rw [q] at z
        exact absurd z.2 (by decide)
    · exact Or.inr ⟨4, by rw [q], Or.inr ⟨rfl, q⟩, by rw [if_pos rfl]; exact x1⟩
  · rw [if_neg x1]
    by_cases z : g_X10_isIn x 0 (nI K - 1) = 0
    · refine Or.inl ⟨by rw [z], fun ⟨r, hr, hx⟩ => ?_⟩
      have hr4 : ¬ r = 4 := fun q => x1 (by rw [hx, if_pos q])
      rw [if_neg hr4] at hx
      rcases hr with y | y
      · rw [hx, show nI K - 1 = nI (K - 1) from nI_sub (a := K) (b := 1) (by omega)] at z
        exact in_nI (a := 0) (by omega) (show r ≤ K - 1 by omega) (by omega) z
      · exact hr4 y.1
    · obtain ⟨r, hr, e⟩ := in_bel z (by omega)
      exact Or.inr ⟨r, by rw [in_b.resolve_left z], Or.inl hr, by rw [if_neg (by omega)]; exact e⟩
def swp (u : rg_U) : rg_U := (upd (upd (upd (upd u.1 53 (u.1 41)) 41 (u.1 53)) 54 (u.1 42)) 42 (u.1 54), va_up (va_up u.2.1 31 (u.2.1 37)) 37 (u.2.1 31), u.2.2)
theorem m_swaps {F : Nat} {u : rg_U} (h1 : ∀ i, 134 ≤ i → u.2.1 31 i = 0) (h2 : ∀ i, 134 ≤ i → u.2.1 37 i = 0) (hF : 10000 < F) : g_X10_swaps F u = some (swp u) := by
  obtain ⟨v, e, v1, v2, v3⟩ := lp_ex (body := fun (s : Int32 × rg_U) => g_X10_swaps_l2 F s.1 s.2) (P := fun k s => ∃ m, k + m = 134 ∧ s.1 = nI m ∧ s.2.1 = u.1 ∧ s.2.2.2 = u.2.2 ∧ ∀ j i, s.2.2.1 j i = if j = 31 ∧ i < m then u.2.1 37 i else if j = 37 ∧ i < m then u.2.1 31 i else u.2.1 j i) (R := fun v => v.1 = u.1 ∧ v.2.2 = u.2.2 ∧ ∀ j i, v.2.1 j i = if j = 31 ∧ i < 134 then u.2.1 37 i else if j = 37 ∧ i < 134 then u.2.1 31 i else u.2.1 j i) (by
    rintro k ⟨s1, s2⟩ ⟨m, hm, e1, e2, e3, hv⟩
    dsimp only at e1 e2 e3 hv
    subst e1
    unfold g_X10_swaps_l2
    dsimp only
    by_cases q : m = 134
    · right
      subst q
      exact ⟨s2, if_pos (by decide), e2, e3, hv⟩
    · left
      rw [if_neg (show ¬ (134 : Int32) ≤ nI m from nI_ge (a := m) (b := 134) (by omega) (by decide)), ck_t (inb_nI (by omega) (by decide)), ck_t (inb_nI (by omega) (by decide)), ck_t (inb_nI (by omega) (by decide)), lt1_i, ck_t (inb_nI (by omega) (by decide)), lt1_i, sA_nI (by omega), sA_nI (by omega), rA_nI (by omega), rA_nI (by omega), nI_1]
      refine ⟨_, k - 1, rfl, by omega, m + 1, by omega, rfl, e2, e3, fun j i => ?_⟩
      dsimp only
      rw [R_at, R_at, hv j i, hv 37 m, hv 31 m, if_neg (show ¬ (37 = 31 ∧ m < m) by omega), if_neg (show ¬ (37 = 37 ∧ m < m) by omega), if_neg (show ¬ (31 = 31 ∧ m < m) by omega), if_neg (show ¬ (31 = 37 ∧ m < m) by omega)]
      by_cases z : i = m
      · subst z
        by_cases y : j = 31
        · subst y
          rw [if_pos ⟨rfl, rfl⟩, if_pos ⟨rfl, by omega⟩]
        · have n1 : ∀ P : Prop, ¬ (j = 31 ∧ P) := fun P q => y q.1
          by_cases x : j = 37
          · rw [if_neg (n1 (i = i)), if_pos ⟨x, rfl⟩, if_neg (n1 (i < i + 1)), if_pos ⟨x, by omega⟩]
          · have n2 : ∀ P : Prop, ¬ (j = 37 ∧ P) := fun P q => x q.1
            rw [if_neg (n1 (i = i)), if_neg (n2 (i = i)), if_neg (n1 (i < i)), if_neg (n2 (i < i)), if_neg (n1 (i < i + 1)), if_neg (n2 (i < i + 1))]
      · rw [if_neg (fun q => z q.2), if_neg (fun q => z q.2)]
        by_cases y : j = 31 ∧ i < m
        · rw [if_pos y, if_pos ⟨y.1, by omega⟩]
        · rw [if_neg y, if_neg (show ¬ (j = 31 ∧ i < m + 1) by omega)]
          by_cases x : j = 37 ∧ i < m
          · rw [if_pos x, if_pos ⟨x.1, by omega⟩]
          · rw [if_neg x, if_neg (show ¬ (j = 37 ∧ i < m + 1) by omega)]) F 134 ((0 : Int32), u) (by omega) ⟨0, rfl, rfl, rfl, rfl, fun j i => by rw [if_neg (by omega), if_neg (by omega)]⟩
  unfold g_X10_swaps
  rw [e, ob_i, lt1_i, lt1_i, lt1_i, lt1_i]
  have hv : v = (u.1, va_up (va_up u.2.1 31 (u.2.1 37)) 37 (u.2.1 31), u.2.2) := by
    refine Prod.ext v1 (Prod.ext ?_ v2)
    funext j i
    show v.2.1 j i = va_up (va_up u.2.1 31 (u.2.1 37)) 37 (u.2.1 31) j i
    rw [v3]
    by_cases y : j = 31
    · subst y
      rw [pm_up_n (by decide), pm_up_s]
      by_cases z : i < 134
      · rw [if_pos ⟨rfl, z⟩]
      · rw [if_neg (fun q => z q.2), if_neg (by omega), h1 i (by omega), h2 i (by omega)]
    · rw [if_neg (fun q => y q.1)]
      by_cases x : j = 37
      · subst x
        rw [pm_up_s]
        by_cases z : i < 134
        · rw [if_pos ⟨rfl, z⟩]
        · rw [if_neg (fun q => z q.2), h1 i (by omega), h2 i (by omega)]
      · rw [if_neg (fun q => x q.1), pm_up_n x, pm_up_n y]
  rw [hv]
  rfl
theorem swp_c {u v : rg_U} (h : coreEq u v) : coreEq u (swp v) := by
  refine ⟨fun j hj => ?_, fun k hk => ?_⟩
  · show va_up (va_up v.2.1 31 (v.2.1 37)) 37 (v.2.1 31) j = _
    rw [pm_up_n (by omega), pm_up_n (by omega), h.1 j hj]
  · show upd (upd (upd (upd v.1 53 (v.1 41)) 41 (v.1 53)) 54 (v.1 42)) 42 (v.1 54) k = _
    rw [pk_un (by omega), pk_un (by omega), pk_un (by omega), pk_un (by omega), h.2 k hk]
theorem swp_a {v : rg_U} : (swp v).2.1 31 = v.2.1 37 ∧ (swp v).2.1 37 = v.2.1 31 ∧ (swp v).1 41 = v.1 53 ∧ (swp v).1 42 = v.1 54 ∧ (swp v).1 53 = v.1 41 ∧ (swp v).1 54 = v.1 42 := by
  refine ⟨?_, ?_, rfl, rfl, rfl, rfl⟩
  · show va_up (va_up v.2.1 31 (v.2.1 37)) 37 (v.2.1 31) 31 = _
    rw [pm_up_n (by decide), pm_up_s]
  · show va_up (va_up v.2.1 31 (v.2.1 37)) 37 (v.2.1 31) 37 = _
    rw [pm_up_s]
theorem lp_all {body : Int32 → Option (Int32 ⊕ (Unit ⊕ Unit))} {Q : Nat → Prop} {n : Nat} (hb : ∀ k, k < n → (Q k → body (nI k) = some (.inl (nI (k + 1)))) ∧ (¬ Q k → body (nI k) = some (.inr (.inl ())))) (he : body (nI n) = some (.inr (.inr ()))) : ∀ f G k, k + f = n → f < G → ((∀ i, k ≤ i → i < n → Q i) ∧ lp body G (nI k) = some (.inr ())) ∨ (¬ (∀ i, k ≤ i → i < n → Q i)) ∧ lp body G (nI k) = some (.inl ())
  | f, 0, k, hk, hG => by omega
  | 0, G + 1, k, hk, hG => by
    have e : k = n := by omega
    subst e
    exact Or.inl ⟨fun i h1 h2 => by omega, lp_r he⟩
  | f + 1, G + 1, k, hk, hG => by
    by_cases q : Q k
    · rw [lp_l ((hb k (by omega)).1 q)]
      refine (lp_all hb he f G (k + 1) (by omega) (by omega)).imp (fun z => ⟨fun i h1 h2 => ?_, z.2⟩) (fun z => ⟨fun y => z.1 (fun i h1 h2 => y i (by omega) h2), z.2⟩)
      rcases Nat.lt_or_ge k i with y | y
      · exact z.1 i y h2
      · rw [show i = k by omega]; exact q
    · exact Or.inr ⟨fun z => q (z k (Nat.le_refl _) (by omega)), lp_r ((hb k (by omega)).2 q)⟩
/-- two rows are alike as states -/
def sLk (m m' : Row) : Prop := (∀ i, i < 80 → m' i = m i) ∧ m' 120 = m 120 ∧ m' 121 = m 121 ∧ ∀ i, i < tn (m 121) → m' (122 + i) = m (122 + i)
theorem m_like {F d : Nat} {u : rg_U} (hd : u.2.1 31 121 = nI d) (hd8 : d ≤ 8) (hF : 10000 < F) : (g_X10_areStatesLike F u = some 1 ∧ sLk (u.2.1 31) (u.2.1 37)) ∨ (g_X10_areStatesLike F u = some 0 ∧ ¬ sLk (u.2.1 31) (u.2.1 37)) := by
  have h1 := lp_all (body := fun (s : Int32) => g_X10_areStatesLike_l2 F u s) (Q := fun i => u.2.1 37 i = u.2.1 31 i) (n := 80) (fun k hk => by
    unfold g_X10_areStatesLike_l2
    rw [if_neg (show ¬ (80 : Int32) ≤ nI k from nI_ge (a := k) (b := 80) (by omega) (by decide)), ck_t (inb_nI (by omega) (by decide)), ck_t (inb_nI (by omega) (by decide)), rA_nI (by omega), rA_nI (by omega), nI_1]
    exact ⟨fun q => if_pos q, fun q => if_neg q⟩) (by
    unfold g_X10_areStatesLike_l2
    exact if_pos (by decide)) 80 F 0 (by omega) (by omega)
  have h2 := lp_all (body := fun (s : Int32) => g_X10_areStatesLike_l69 F u s) (Q := fun i => u.2.1 37 (122 + i) = u.2.1 31 (122 + i)) (n := d) (fun k hk => by
    unfold g_X10_areStatesLike_l69
    rw [ck_t (show inb 121 134 by decide), show rA u 31 121 = nI d from hd, if_neg (nI_ge hk (by omega)), show (122 : Int32) + nI k = nI (122 + k) from nI_add 122 k, ck_t (inb_nI (by omega) (by decide)), ck_t (inb_nI (by omega) (by decide)), rA_nI (by omega), rA_nI (by omega), nI_1]
    exact ⟨fun q => if_pos q, fun q => if_neg q⟩) (by
    unfold g_X10_areStatesLike_l69
    rw [ck_t (show inb 121 134 by decide), show rA u 31 121 = nI d from hd]
    exact if_pos (nI_le (Nat.le_refl _) (by omega))) d F 0 (by omega) (by omega)
  unfold g_X10_areStatesLike sLk
  rw [hd, tnn (by omega)]
  rcases h1 with ⟨a1, a2⟩ | ⟨a1, a2⟩
  · rw [show lp (fun (s : Int32) => g_X10_areStatesLike_l2 F u s) F (0 : Int32) = some (.inr ()) from a2, ob_i]
    show (ck (inb 120 134) _ = _ ∧ _) ∨ (ck (inb 120 134) _ = _ ∧ _)
    rw [ck_t (show inb 120 134 by decide), ck_t (show inb 120 134 by decide), ck_t (show inb 121 134 by decide), ck_t (show inb 121 134 by decide), show rA u 37 120 = u.2.1 37 120 from rfl, show rA u 31 120 = u.2.1 31 120 from rfl, show rA u 37 121 = u.2.1 37 121 from rfl, show rA u 31 121 = nI d from hd]
    by_cases q : u.2.1 37 120 = u.2.1 31 120
    · rw [if_pos q]
      by_cases p : u.2.1 37 121 = nI d
      · rw [if_pos p]
        rcases h2 with ⟨b1, b2⟩ | ⟨b1, b2⟩
        · rw [show lp (fun (s : Int32) => g_X10_areStatesLike_l69 F u s) F (0 : Int32) = some (.inr ()) from b2, ob_i]
          exact Or.inl ⟨rfl, fun i hi => a1 i (Nat.zero_le _) hi, q, p, fun i hi => b1 i (Nat.zero_le _) hi⟩
        · rw [show lp (fun (s : Int32) => g_X10_areStatesLike_l69 F u s) F (0 : Int32) = some (.inl ()) from b2, ob_i]
          exact Or.inr ⟨rfl, fun z => b1 (fun i _ hi => z.2.2.2 i hi)⟩
      · rw [if_neg p]
        exact Or.inr ⟨rfl, fun z => p z.2.2.1⟩
    · rw [if_neg q]
      exact Or.inr ⟨rfl, fun z => q z.2.1⟩
  · rw [show lp (fun (s : Int32) => g_X10_areStatesLike_l2 F u s) F (0 : Int32) = some (.inl ()) from a2, ob_i]
    exact Or.inr ⟨rfl, fun z => a1 (fun i _ hi => z.1 i hi)⟩
end W_32
section W_33
-- 97s.parts
theorem imin_nI {a b : Nat} (ha : a < 2 ^ 31) (hb : b < 2 ^ 31) : imin (nI a) (nI b) = nI (min a b) := by
  unfold imin
  by_cases q : a ≤ b
  · rw [if_neg (nI_nlt (a := b) (b := a) q hb), Nat.min_eq_left q]
  · rw [if_pos (nI_lt (by omega) ha), Nat.min_eq_right (by omega)]
/-- two runs go beside each other -/
def pS (u v : rg_U) (r1 r2 t : Nat) : Prop := coreEq u v ∧ v.2.1 31 = (rpm u r2 t).1 ∧ v.2.1 37 = (rpm u r1 t).1 ∧ v.1 41 = nI r2 ∧ v.1 42 = nI (rpm u r2 t).2 ∧ v.1 53 = nI r1 ∧ v.1 54 = nI (rpm u r1 t).2
theorem pS_swap {F r1 r2 t : Nat} {u v : rg_U} (h : pS u v r1 r2 t) (h1 : runOK u r1) (h2 : runOK u r2) (t1 : t ≤ Tr u r1) (t2 : t ≤ Tr u r2) (hF : 10000 < F) : g_X10_swaps F v = some (swp v) ∧ pS u (swp v) r2 r1 t := by
  obtain ⟨a1, a2, a3, a4, a5, a6, a7⟩ := h
  obtain ⟨b1, b2, b3, b4, b5, b6⟩ := swp_a (v := v)
  exact ⟨m_swaps (by rw [a2]; exact rpm_z h2 t2) (by rw [a3]; exact rpm_z h1 t1) hF, swp_c a1, b1.trans a3, b2.trans a2, b3.trans a6, b4.trans a7, b5.trans a4, b6.trans a5⟩
theorem step_more {F K W r t : Nat} {v : rg_U} (hc : coreM v K W) (ha : act v K r) (h31 : v.2.1 31 = (rpm v r t).1) (h41 : v.1 41 = nI r) (h42 : v.1 42 = nI (rpm v r t).2) (ht : t < Tr v r) (hF : 10000 < F) : ∃ a b c, g_X10_simStep F v = some (sX v a b c (nI r) (nI (rpm v r (t + 1)).2) (rpm v r (t + 1)).1) := by
  have hro := hc.2.2.2.2.1 r ha
  obtain ⟨a, b, c, e⟩ := m_simStep (F := F) (a := v.1 37) (b := v.1 38) (c := v.1 39) (act5 hc.1.2.1 ha) hro.1 hro.2.2.2.2.2.2.1.1 ht hF
  refine ⟨a, b, c, ?_⟩
  have e2 : sX v (v.1 37) (v.1 38) (v.1 39) (nI r) (nI (rp (Pm v r) (Lm v r) (nr v r) t).2) (rp (Pm v r) (Lm v r) (nr v r) t).1 = v := by
    have h := sX_id (u := v)
    rw [h31, h41, h42] at h
    exact h
  rw [e2] at e
  exact e
theorem pS_step {F K W r1 r2 t : Nat} {u v : rg_U} (hc : coreM u K W) (h : coreEq u v ∧ v.2.1 31 = (rpm u r2 t).1 ∧ v.1 41 = nI r2 ∧ v.1 42 = nI (rpm u r2 t).2) (ha : act u K r2) (t2 : t < Tr u r2) (hF : 10000 < F) : ∃ w, g_X10_simStep F v = some w ∧ coreEq u w ∧ w.2.1 31 = (rpm u r2 (t + 1)).1 ∧ w.2.1 37 = v.2.1 37 ∧ w.1 41 = nI r2 ∧ w.1 42 = nI (rpm u r2 (t + 1)).2 ∧ w.1 53 = v.1 53 ∧ w.1 54 = v.1 54 := by
  obtain ⟨a1, a2, a4, a5⟩ := h
  obtain ⟨e1, e2, e3, e5⟩ := eq_c0 (r := r2) a1
  obtain ⟨a, b, c, e⟩ := step_more (F := F) (K := K) (W := W) (r := r2) (t := t) (v := v) (core_eq a1 hc) (act_0 a1 ha) (by rw [e1]; exact a2) a4 (by rw [e1]; exact a5) (by rw [e3]; exact t2) hF
  rw [e1] at e
  exact ⟨_, e, coreEq_t a1 coreEq_sX, sX_A, sX_An (by decide), sX_41, sX_42, sX_n (by decide), sX_n (by decide)⟩
/-- both go on -/
theorem pS_both {F K W r1 r2 t : Nat} {u v : rg_U} (hc : coreM u K W) (h : pS u v r1 r2 t) (a1 : act u K r1) (a2 : act u K r2) (t1 : t < Tr u r1) (t2 : t < Tr u r2) (hF : 10000 < F) : ∃ v1 v2, g_X10_simStep F v = some v1 ∧ g_X10_swaps F v1 = some (swp v1) ∧ g_X10_simStep F (swp v1) = some v2 ∧ g_X10_swaps F v2 = some (swp v2) ∧ pS u (swp v2) r1 r2 (t + 1) := by
  have h1 := hc.2.2.2.2.1 r1 a1
  have h2 := hc.2.2.2.2.1 r2 a2
  obtain ⟨b1, b2, b3, b4, b5, b6, b7⟩ := h
  obtain ⟨v1, e1, c1, c2, c3, c4, c5, c6, c7⟩ := pS_step (r1 := r1) hc ⟨b1, b2, b4, b5⟩ a2 t2 hF
  have z1 : ∀ i, 134 ≤ i → v1.2.1 31 i = 0 := by rw [c2]; exact rpm_z h2 t2
  have z2 : ∀ i, 134 ≤ i → v1.2.1 37 i = 0 := by rw [c3, b3]; exact rpm_z h1 (by omega)
  obtain ⟨d1, d2, d3, d4, d5, d6⟩ := swp_a (v := v1)
  obtain ⟨v2, e2, f1, f2, f3, f4, f5, f6, f7⟩ := pS_step (r1 := r2) (v := swp v1) hc ⟨swp_c c1, by rw [d1, c3, b3], by rw [d3, c6, b6], by rw [d4, c7, b7]⟩ a1 t1 hF
  have z3 : ∀ i, 134 ≤ i → v2.2.1 31 i = 0 := by rw [f2]; exact rpm_z h1 t1
  have z4 : ∀ i, 134 ≤ i → v2.2.1 37 i = 0 := by rw [f3, d2, c2]; exact rpm_z h2 t2
  obtain ⟨g1, g2, g3, g4, g5, g6⟩ := swp_a (v := v2)
  exact ⟨v1, v2, e1, m_swaps z1 z2 hF, e2, m_swaps z3 z4 hF, swp_c f1, by rw [g1, f3, d2, c2], by rw [g2, f2], by rw [g3, f6, d5, c4], by rw [g4, f7, d6, c5], by rw [g5, f4], by rw [g6, f5]⟩
/-- the answer of parts -/
def ptA (u : rg_U) (r1 r2 M : Nat) (x : Int32) : Prop := (x = -1 ∧ ∀ k, k ≤ M → sLk (rpm u r2 k).1 (rpm u r1 k).1) ∨ ∃ k, k ≤ M ∧ x = nI k ∧ ¬ sLk (rpm u r2 k).1 (rpm u r1 k).1 ∧ ∀ j, j < k → sLk (rpm u r2 j).1 (rpm u r1 j).1
theorem m_partsl {F K W r1 r2 M : Nat} {u : rg_U} (hc : coreM u K W) (a1 : act u K r1) (a2 : act u K r2) (m1 : M ≤ Tr u r1) (m2 : M ≤ Tr u r2) (hF : 10000 < F) : ∀ (f k : Nat) (v : rg_U), pS u v r1 r2 k → f + k = M → (∀ j, j < k → sLk (rpm u r2 j).1 (rpm u r1 j).1) → ∀ G, f + 3 < G → ∃ x w, lp (fun (s : Int32 × Int32 × rg_U) => g_X10_parts_l81 F (nI M) s.1 s.2.1 s.2.2) G ((-1 : Int32), nI k, v) = some (x, w) ∧ ptA u r1 r2 M x ∧ ∃ t, t ≤ M ∧ pS u w r1 r2 t
  | f, k, v, hp, hf, hl, G, hG => by
    have hT3 := Tr3 hc a1
    have h2 := hc.2.2.2.2.1 r2 a2
    obtain ⟨-, d, hd8, hd, -⟩ := (rp_ok h2.2.2.2.2.2.2.1.1 k (by omega)).1
    have hd' : v.2.1 31 121 = nI d := by rw [hp.2.1]; exact hd
    match G, hG with
    | G + 3, hG =>
    have nb : ∀ (l : Int32), (k < M → ∃ w, g_X10_parts_j105 F l (nI M) (nI k) v = some (.inl (l, nI (k + 1), w)) ∧ pS u w r1 r2 (k + 1)) ∧ (k = M → g_X10_parts_j105 F l (nI M) (nI k) v = some (.inl (l, nI (k + 1), v))) := by
      intro l
      unfold g_X10_parts_j105 g_X10_parts_j131
      rw [nI_1]
      refine ⟨fun q => ?_, fun q => by rw [if_pos (by rw [q])]⟩
      obtain ⟨v1, v2, e1, e2, e3, e4, e5⟩ := pS_both hc hp a1 a2 (show k < Tr u r1 by omega) (show k < Tr u r2 by omega) hF
      rw [if_neg (fun z => by have := nI_inj (by omega) (by omega) z; omega), e1, ob_i, e2, ob_i, e3, ob_i, e4, ob_i]
      exact ⟨_, rfl, e5⟩
    have hend : ∀ (l : Int32) (w : rg_U), g_X10_parts_l81 F (nI M) l (nI (M + 1)) w = some (.inr (l, w)) := fun l w => by
      unfold g_X10_parts_l81
      rw [if_pos (nI_lt (by omega) (by omega))]
    have hb0 : g_X10_parts_l81 F (nI M) (-1) (nI k) v = ob (g_X10_areStatesLike F v) (fun r28 => if r28 = 0 then (g_X10_parts_j105 F (nI k) (nI M) (nI k) v) else (g_X10_parts_j105 F (-1) (nI M) (nI k) v)) := by
      unfold g_X10_parts_l81
      rw [if_neg (nI_nlt (by omega) (by omega)), if_pos rfl]
    rcases m_like (F := F) hd' hd8 hF with ⟨q1, q2⟩ | ⟨q1, q2⟩
    · rw [hp.2.1, hp.2.2.1] at q2
      rw [q1, ob_i, if_neg one_n0] at hb0
      have hl' : ∀ j, j < k + 1 → sLk (rpm u r2 j).1 (rpm u r1 j).1 := fun j hj => by
        rcases Nat.lt_or_ge j k with z | z
        · exact hl j z
        · rw [show j = k by omega]; exact q2
      match f, hf with
      | 0, hf =>
        rw [(nb (-1)).2 (by omega)] at hb0
        refine ⟨-1, v, ?_, Or.inl ⟨rfl, fun j hj => hl' j (by omega)⟩, k, by omega, hp⟩
        rw [lp_l (body := fun (s : Int32 × Int32 × rg_U) => g_X10_parts_l81 F (nI M) s.1 s.2.1 s.2.2) (s := ((-1 : Int32), nI k, v)) hb0]
        refine lp_r ?_
        rw [show k + 1 = M + 1 by omega]
        exact hend (-1) v
      | f + 1, hf =>
        obtain ⟨w, e1, e2⟩ := (nb (-1)).1 (by omega)
        rw [e1] at hb0
        rw [lp_l (body := fun (s : Int32 × Int32 × rg_U) => g_X10_parts_l81 F (nI M) s.1 s.2.1 s.2.2) (s := ((-1 : Int32), nI k, v)) hb0]
        exact m_partsl hc a1 a2 m1 m2 hF f (k + 1) w e2 (by omega) hl' (G + 2) (by omega)
    · rw [hp.2.1, hp.2.2.1] at q2
      rw [q1, ob_i, if_pos rfl] at hb0
      have hA : ptA u r1 r2 M (nI k) := Or.inr ⟨k, by omega, rfl, q2, hl⟩
      rcases Nat.lt_or_ge k M with z | z
      · obtain ⟨w, e1, e2⟩ := (nb (nI k)).1 z
        rw [e1] at hb0
        refine ⟨nI k, w, ?_, hA, k + 1, by omega, e2⟩
        rw [lp_l (body := fun (s : Int32 × Int32 × rg_U) => g_X10_parts_l81 F (nI M) s.1 s.2.1 s.2.2) (s := ((-1 : Int32), nI k, v)) hb0]
        refine lp_r ?_
        show g_X10_parts_l81 F (nI M) (nI k) (nI (k + 1)) w = _
        unfold g_X10_parts_l81
        rw [if_neg (nI_nlt (by omega) (by omega)), if_neg (nI_m1 (by omega))]
      · rw [(nb (nI k)).2 (by omega)] at hb0
        refine ⟨nI k, v, ?_, hA, k, by omega, hp⟩
        rw [lp_l (body := fun (s : Int32 × Int32 × rg_U) => g_X10_parts_l81 F (nI M) s.1 s.2.1 s.2.2) (s := ((-1 : Int32), nI k, v)) hb0]
        refine lp_r ?_
        rw [show k + 1 = M + 1 by omega]
        exact hend (nI k) v
theorem m_parts40 {F K W r1 r2 : Nat} {u : rg_U} (h : okM u K W) (a1 : act u K r1) (a2 : act u K r2) (hF : 10000 < F) : ∃ x w, g_X10_parts_j40 F (nI r1) (nI r2) u = some (x, w) ∧ ptA u r1 r2 (min (Tr u r1) (Tr u r2)) x ∧ coreEq u w ∧ okM w K W := by
  have h1 := h.1.2.2.2.2.1 r1 a1
  have h2 := h.1.2.2.2.2.1 r2 a2
  have hK := h.1.1.2.1
  unfold g_X10_parts_j40
  obtain ⟨v, b1, b2, b3, b4, b5, b6⟩ := beg_more h a1 hF
  have z1 : ∀ i, 134 ≤ i → v.2.1 31 i = 0 := by rw [b4]; exact rpm_z h1 (Nat.zero_le _)
  have z2 : ∀ i, 134 ≤ i → v.2.1 37 i = 0 := b3.2.2.2.2.2
  obtain ⟨c1, c2, c3, c4, c5, c6⟩ := swp_a (v := v)
  have hcs : coreEq u (swp v) := swp_c b2
  have hcc := core_eq hcs h.1
  obtain ⟨e1, e2, e3, e5⟩ := eq_c0 (r := r2) hcs
  have hro := hcc.2.2.2.2.1 r2 (act_0 hcs a2)
  obtain ⟨a, b, c, e⟩ := m_simBegins (F := F) (u := swp v) (act5 hK a2) hro.1 hro.2.2.2.2.2.2.1.1 (by rw [c1]; exact z2) hF
  rw [b1, ob_i, m_swaps z1 z2 hF, ob_i, e, ob_i]
  have hp : pS u (sX (swp v) a b c (nI r2) (nI (rpm (swp v) r2 0).2) (rpm (swp v) r2 0).1) r1 r2 0 := ⟨coreEq_t hcs coreEq_sX, by rw [sX_A, e1], by rw [sX_An (by decide), c2, b4], sX_41, by rw [← e1]; exact sX_42, by rw [sX_n (by decide), c5, b5], by rw [sX_n (by decide), c6, b6]⟩
  generalize hv : sX (swp v) a b c (nI r2) (nI (rpm (swp v) r2 0).2) (rpm (swp v) r2 0).1 = v' at hp
  rw [show sX (swp v) a b c (nI r2) (nI (rp (Pm (swp v) r2) (Lm (swp v) r2) (nr (swp v) r2) 0).2) (rp (Pm (swp v) r2) (Lm (swp v) r2) (nr (swp v) r2) 0).1 = v' from hv]
  have hT1 := Tr3 h.1 a1
  have hT2 := Tr3 h.1 a2
  have r15 := act5 hK a1
  have r25 := act5 hK a2
  rw [ck_t (inb_nI r15 (by decide)), ck_t (inb_nI r25 (by decide)), rA_nI (by omega), rA_nI (by omega), hp.1.1 21 (by decide), h1.2.1, h2.2.1, imin_nI (by omega) (by omega)]
  obtain ⟨x, w, g1, g2, t, g3, g4⟩ := m_partsl h.1 a1 a2 (Nat.min_le_left (Tr u r1) (Tr u r2)) (Nat.min_le_right (Tr u r1) (Tr u r2)) hF (min (Tr u r1) (Tr u r2)) 0 v' hp (by omega) (fun j hj => by omega) F (by omega)
  rw [show lp (fun (s : Int32 × Int32 × rg_U) => g_X10_parts_l81 F (nI (min (Tr u r1) (Tr u r2))) s.1 s.2.1 s.2.2) F ((-1 : Int32), (0 : Int32), v') = some (x, w) from g1, ob_i, lt1_i]
  have hw : coreEq u (sF w 0 41 (-1)) := ⟨g4.1.1, fun k hk => by
    show upd w.1 41 (-1) k = _
    rw [pk_un (by omega), g4.1.2 k hk]⟩
  exact ⟨x, _, rfl, g2, hw, core_eq hw h.1, simM_none hK rfl (fun i hi => by rw [hw.1 28 (by decide)]; exact h.2.2.2.1 i hi) (fun i hi => by show w.2.1 31 i = 0; rw [g4.2.1]; exact rpm_z h2 (by omega) i hi) (fun i hi => by show w.2.1 37 i = 0; rw [g4.2.2.1]; exact rpm_z h1 (by omega) i hi)⟩
theorem m_parts {F K W : Nat} {x y : Int32} {u : rg_U} (h : okM u K W) (hF : 10000 < F) : (¬ ((∃ r, act u K r ∧ x = (if r = 4 then -1 else nI r)) ∧ ∃ r, act u K r ∧ y = (if r = 4 then -1 else nI r)) ∧ g_X10_parts F x y u = some (-2, u)) ∨ ∃ r1 r2 a w, act u K r1 ∧ x = (if r1 = 4 then -1 else nI r1) ∧ act u K r2 ∧ y = (if r2 = 4 then -1 else nI r2) ∧ g_X10_parts F x y u = some (a, w) ∧ ptA u r1 r2 (min (Tr u r1) (Tr u r2)) a ∧ coreEq u w ∧ okM w K W := by
  unfold g_X10_parts
  have hK := h.1.1.2.1
  rcases m_there (F := F) (x := x) h.1 with ⟨q1, q2⟩ | ⟨r1, q1, q2, q3⟩
  · rw [q1, ob_i, if_pos rfl]; exact Or.inl ⟨fun z => q2 z.1, rfl⟩
  rw [q1, ob_i, if_neg one_n0]
  rcases m_there (F := F) (x := y) h.1 with ⟨p1, p2⟩ | ⟨r2, p1, p2, p3⟩
  · rw [p1, ob_i, if_pos rfl]; exact Or.inl ⟨fun z => p2 z.2, rfl⟩
  rw [p1, ob_i, if_neg one_n0]
  obtain ⟨a, w, e1, e2, e3, e4⟩ := m_parts40 h q2 p2 hF
  refine Or.inr ⟨r1, r2, a, w, q2, q3, p2, p3, ?_, e2, e3, e4⟩
  have r15 := act5 hK q2
  have r25 := act5 hK p2
  have f2 : ∀ s, g_X10_parts_j29 F y s u = g_X10_parts_j40 F s (nI r2) u := fun s => by
    unfold g_X10_parts_j29
    by_cases z : r2 = 4
    · rw [if_pos z] at p3
      rw [if_pos p3, z]
      rfl
    · rw [if_neg z] at p3
      rw [if_neg (by rw [p3]; exact nI_m1 (by omega)), p3]
  rw [f2, f2]
  by_cases z : r1 = 4
  · rw [if_pos z] at q3
    rw [if_pos q3, ← e1, z]
    rfl
  · rw [if_neg z] at q3
    rw [if_neg (by rw [q3]; exact nI_m1 (by omega)), ← e1, q3]
end W_33
section W_34
-- 97t.align
/-! align of the reference -/
/-- the calls i and j are alike -/
def E35 (u : rg_U) (r1 r2 i j : Nat) : Bool := decide (u.2.1 17 (100 * r1 + i) = u.2.1 17 (100 * r2 + j)) && decide (u.2.1 18 (100 * r1 + i) = u.2.1 18 (100 * r2 + j))
theorem m_areLike {F r1 r2 i j : Nat} {u : rg_U} (h1 : r1 < 5) (h2 : r2 < 5) (hi : i < 100) (hj : j < 100) (e1 : u.1 47 = nI r1) (e2 : u.1 48 = nI r2) : g_X10_areLike F (nI i) (nI j) u = some (if E35 u r1 r2 i j then 1 else 0) := by
  unfold g_X10_areLike E35
  rw [show rF u 0 47 = nI r1 from e1, show rF u 0 48 = nI r2 from e2, show (100 : Int32) * nI r1 + nI i = nI (100 * r1 + i) by rw [show (100 : Int32) * nI r1 = nI (100 * r1) from pk_mul 100 _, nI_add], show (100 : Int32) * nI r2 + nI j = nI (100 * r2 + j) by rw [show (100 : Int32) * nI r2 = nI (100 * r2) from pk_mul 100 _, nI_add], ck_t (inb_nI (by omega) (by decide)), ck_t (inb_nI (by omega) (by decide)), ck_t (inb_nI (by omega) (by decide)), ck_t (inb_nI (by omega) (by decide)), rA_nI (by omega), rA_nI (by omega), rA_nI (by omega), rA_nI (by omega)]
  by_cases q : u.2.1 17 (100 * r1 + i) = u.2.1 17 (100 * r2 + j)
  · rw [if_pos q]
    by_cases z : u.2.1 18 (100 * r1 + i) = u.2.1 18 (100 * r2 + j)
    · rw [if_pos z, if_pos (by simp [q, z])]
    · rw [if_neg z, if_neg (by simp [z])]
  · rw [if_neg q, if_neg (by simp [q])]
/-- the longest of what goes in pairs, with a and b left -/
def lrow (E : Nat → Bool) (D : Nat) (f : Nat → Nat) : Nat → Nat
  | 0 => 0
  | b + 1 => max (max (f (b + 1)) (lrow E D f b)) (if E (D - (b + 1)) then 1 + f b else 0)
def lcs (E : Nat → Nat → Bool) (C D : Nat) : Nat → Nat → Nat
  | 0 => fun _ => 0
  | a + 1 => lrow (E (C - (a + 1))) D (lcs E C D a)
theorem lrow_le {E : Nat → Bool} {D n : Nat} {f : Nat → Nat} (h : ∀ b, f b ≤ n) : ∀ b, lrow E D f b ≤ n + 1
  | 0 => Nat.zero_le _
  | b + 1 => by
    have h1 := h (b + 1)
    have h2 := lrow_le (E := E) (D := D) h b
    have h3 := h b
    show max (max (f (b + 1)) (lrow E D f b)) (if E (D - (b + 1)) then 1 + f b else 0) ≤ n + 1
    by_cases q : E (D - (b + 1)) = true
    · rw [if_pos q]; omega
    · rw [if_neg q]; omega
theorem lcs_le {E : Nat → Nat → Bool} {C D : Nat} : ∀ a b, lcs E C D a b ≤ a
  | 0, b => Nat.le_refl _
  | a + 1, b => lrow_le (lcs_le a) b
theorem lcs_0 {E : Nat → Nat → Bool} {C D a : Nat} : lcs E C D a 0 = 0 := by cases a <;> rfl
def lL (E : Nat → Nat → Bool) (C D i j : Nat) : Nat := lcs E C D (C - i) (D - j)
theorem lL_le {E : Nat → Nat → Bool} {C D i j : Nat} : lL E C D i j ≤ C := Nat.le_trans (lcs_le _ _) (Nat.sub_le _ _)
theorem lL_C {E : Nat → Nat → Bool} {C D i j : Nat} (h : C ≤ i) : lL E C D i j = 0 := by
  unfold lL
  rw [show C - i = 0 by omega]
  rfl
theorem lL_D {E : Nat → Nat → Bool} {C D i j : Nat} (h : D ≤ j) : lL E C D i j = 0 := by
  unfold lL
  rw [show D - j = 0 by omega]
  exact lcs_0
theorem lL_s {E : Nat → Nat → Bool} {C D i j : Nat} (h1 : i < C) (h2 : j < D) : lL E C D i j = max (max (lL E C D (i + 1) j) (lL E C D i (j + 1))) (if E i j then 1 + lL E C D (i + 1) (j + 1) else 0) := by
  obtain ⟨a, ea⟩ : ∃ a, C - i = a + 1 := ⟨C - i - 1, by omega⟩
  obtain ⟨b, eb⟩ : ∃ b, D - j = b + 1 := ⟨D - j - 1, by omega⟩
  unfold lL
  rw [ea, eb, show C - (i + 1) = a by omega, show D - (j + 1) = b by omega]
  show max (max (lcs E C D a (b + 1)) (lcs E C D (a + 1) b)) (if E (C - (a + 1)) (D - (b + 1)) then 1 + lcs E C D a b else 0) = _
  rw [show C - (a + 1) = i by omega, show D - (b + 1) = j by omega]
def sm35 (u v : rg_U) : Prop := v.1 = u.1 ∧ ∀ j, j ≠ 35 → v.2.1 j = u.2.1 j
theorem E35_s {u v : rg_U} (h : sm35 u v) : E35 v = E35 u := by
  funext r1 r2 i j
  unfold E35
  rw [h.2 17 (by decide), h.2 18 (by decide)]
def pT (v : rg_U) (L : Nat → Nat → Nat) (C D i m : Nat) : Prop := (∀ i' j', i < i' → i' ≤ C → j' ≤ D → v.2.1 35 (101 * i' + j') = nI (L i' j')) ∧ ∀ j', m ≤ j' → j' ≤ D → v.2.1 35 (101 * i + j') = nI (L i j')
theorem m_cell {F r1 r2 C D i j : Nat} {u v : rg_U} (h1 : r1 < 5) (h2 : r2 < 5) (e1 : u.1 47 = nI r1) (e2 : u.1 48 = nI r2) (hC : C ≤ 100) (hD : D ≤ 100) (hv : sm35 u v) (hi : i ≤ C) (hj : j ≤ D) (hT : pT v (lL (E35 u r1 r2) C D) C D i (j + 1)) : ∃ w, g_X10_laysPairs_l61 F (nI C) (nI D) (nI i) (nI j) v = some (.inl (nI j + (-1), w)) ∧ sm35 u w ∧ pT w (lL (E35 u r1 r2) C D) C D i j := by
  have hl : ∀ a b, lL (E35 u r1 r2) C D a b ≤ 100 := fun a b => Nat.le_trans lL_le hC
  have fin : g_X10_laysPairs_l61 F (nI C) (nI D) (nI i) (nI j) v = g_X10_laysPairs_j171 F (nI C) (nI D) (nI i) (nI j) (nI (lL (E35 u r1 r2) C D i j)) v := by
    unfold g_X10_laysPairs_l61
    rw [if_neg (show ¬ nI j < 0 from nI_nlt (a := j) (b := 0) (by omega) (by omega))]
    have e0 : (101 : Int32) * (nI i + 1) + nI j = nI (101 * (i + 1) + j) := by rw [nI_1, show (101 : Int32) * nI (i + 1) = nI (101 * (i + 1)) from pk_mul 101 _, nI_add]
    have e01 : (101 : Int32) * (nI i + 1) + nI j + 1 = nI (101 * (i + 1) + (j + 1)) := by rw [e0, nI_1, Nat.add_assoc]
    have e10 : (101 : Int32) * nI i + nI j + 1 = nI (101 * i + (j + 1)) := by rw [show (101 : Int32) * nI i = nI (101 * i) from pk_mul 101 _, nI_add, nI_1, Nat.add_assoc]
    by_cases qi : C ≤ i
    · rw [if_pos (nI_le qi (by omega)), lL_C qi]
      have k1 : g_X10_laysPairs_j121 F (nI C) (nI D) (nI i) (nI j) (nI 0) v = g_X10_laysPairs_j171 F (nI C) (nI D) (nI i) (nI j) (nI 0) v := by
        unfold g_X10_laysPairs_j121
        rw [if_pos (nI_le qi (by omega))]
      unfold g_X10_laysPairs_j92
      by_cases qj : D ≤ j
      · rw [if_pos (nI_le qj (by omega))]
        exact k1
      · rw [if_neg (nI_ge (by omega) (by omega)), e10, ck_t (inb_nI (by omega) (by decide)), rA_nI (by omega), hT.2 (j + 1) (Nat.le_refl _) (by omega), lL_C qi, show imax 0 (nI 0) = nI 0 from by decide]
        exact k1
    · rw [if_neg (nI_ge (by omega) (by omega)), e0, ck_t (inb_nI (by omega) (by decide)), rA_nI (by omega), hT.1 (i + 1) j (by omega) (by omega) hj]
      unfold g_X10_laysPairs_j92
      by_cases qj : D ≤ j
      · rw [if_pos (nI_le qj (by omega)), lL_D qj, lL_D qj]
        unfold g_X10_laysPairs_j121
        rw [if_neg (nI_ge (by omega) (by omega)), if_pos (nI_le qj (by omega))]
      · rw [if_neg (nI_ge (by omega) (by omega)), e10, ck_t (inb_nI (by omega) (by decide)), rA_nI (by omega), hT.2 (j + 1) (Nat.le_refl _) (by omega), imax_nI (by have := hl (i + 1) j; omega) (by have := hl i (j + 1); omega)]
        unfold g_X10_laysPairs_j121
        rw [if_neg (nI_ge (by omega) (by omega)), if_neg (nI_ge (by omega) (by omega)), m_areLike (F := F) h1 h2 (by omega) (by omega) (by rw [hv.1]; exact e1) (by rw [hv.1]; exact e2), ob_i, E35_s hv, lL_s (i := i) (j := j) (by omega) (by omega)]
        by_cases z : E35 u r1 r2 i j = true
        · rw [if_pos z, if_neg one_n0, if_pos z, e01, ck_t (inb_nI (by omega) (by decide)), rA_nI (by omega), hT.1 (i + 1) (j + 1) (by omega) (by omega) (by omega), show (1 : Int32) + nI (lL (E35 u r1 r2) C D (i + 1) (j + 1)) = nI (1 + lL (E35 u r1 r2) C D (i + 1) (j + 1)) from nI_add 1 _, imax_nI (by have := hl (i + 1) j; have := hl i (j + 1); omega) (by have := hl (i + 1) (j + 1); omega)]
        · rw [if_neg z, if_pos rfl, if_neg z, Nat.max_eq_left (Nat.zero_le _)]
  rw [fin]
  unfold g_X10_laysPairs_j171
  rw [show (101 : Int32) * nI i + nI j = nI (101 * i + j) by rw [show (101 : Int32) * nI i = nI (101 * i) from pk_mul 101 _, nI_add], ck_t (inb_nI (by omega) (by decide)), lt1_i, sA_nI (by omega)]
  refine ⟨_, rfl, ⟨hv.1, fun k hk => by funext n; rw [R_at, if_neg (fun z => hk z.1), hv.2 k hk]⟩, fun i' j' a1 a2 a3 => ?_, fun j' a1 a2 => ?_⟩
  · rw [R_at, if_neg (by omega)]
    exact hT.1 i' j' a1 a2 a3
  · rw [R_at]
    by_cases z : j' = j
    · rw [if_pos ⟨rfl, by omega⟩, z]
    · rw [if_neg (by omega)]
      exact hT.2 j' (by omega) a2
theorem m_rowl {F r1 r2 C D i : Nat} {u : rg_U} (h1 : r1 < 5) (h2 : r2 < 5) (e1 : u.1 47 = nI r1) (e2 : u.1 48 = nI r2) (hC : C ≤ 100) (hD : D ≤ 100) (hi : i ≤ C) : ∀ (m : Nat) (v : rg_U), m ≤ D + 1 → sm35 u v → pT v (lL (E35 u r1 r2) C D) C D i m → ∀ G, m < G → ∃ w, lp (fun (s : Int32 × rg_U) => g_X10_laysPairs_l61 F (nI C) (nI D) (nI i) s.1 s.2) G (nI m + (-1), v) = some w ∧ sm35 u w ∧ pT w (lL (E35 u r1 r2) C D) C D i 0
  | m, v, hm, hv, hT, 0, hG => by omega
  | 0, v, hm, hv, hT, G + 1, hG => by
    refine ⟨v, lp_r ?_, hv, hT⟩
    unfold g_X10_laysPairs_l61
    dsimp only
    rw [if_pos (by decide)]
  | m + 1, v, hm, hv, hT, G + 1, hG => by
    obtain ⟨w, g1, g2, g3⟩ := m_cell (F := F) (j := m) h1 h2 e1 e2 hC hD hv hi (by omega) hT
    have e : nI (m + 1) + (-1) = nI m := by rw [← nI_1, Int32.add_assoc]; exact Int32.add_zero _
    rw [e, lp_l (body := fun (s : Int32 × rg_U) => g_X10_laysPairs_l61 F (nI C) (nI D) (nI i) s.1 s.2) (s := (nI m, v)) g1]
    exact m_rowl h1 h2 e1 e2 hC hD hi m w (by omega) g2 g3 G (by omega)
theorem m_rowsl {F r1 r2 C D : Nat} {u : rg_U} (h1 : r1 < 5) (h2 : r2 < 5) (e1 : u.1 47 = nI r1) (e2 : u.1 48 = nI r2) (hC : C ≤ 100) (hD : D ≤ 100) (hF : 10000 < F) : ∀ (m : Nat) (v : rg_U), m ≤ C + 1 → sm35 u v → (∀ i' j', m ≤ i' → i' ≤ C → j' ≤ D → v.2.1 35 (101 * i' + j') = nI (lL (E35 u r1 r2) C D i' j')) → ∀ G, m < G → ∃ w, lp (fun (s : Int32 × rg_U) => g_X10_laysPairs_l52 F (nI C) (nI D) s.1 s.2) G (nI m + (-1), v) = some w ∧ sm35 u w ∧ ∀ i' j', i' ≤ C → j' ≤ D → w.2.1 35 (101 * i' + j') = nI (lL (E35 u r1 r2) C D i' j')
  | m, v, hm, hv, hT, 0, hG => by omega
  | 0, v, hm, hv, hT, G + 1, hG => by
    refine ⟨v, lp_r ?_, hv, fun i' j' => hT i' j' (Nat.zero_le _)⟩
    unfold g_X10_laysPairs_l52
    dsimp only
    rw [if_pos (by decide)]
  | m + 1, v, hm, hv, hT, G + 1, hG => by
    obtain ⟨w, g1, g2, g3⟩ := m_rowl (F := F) (i := m) h1 h2 e1 e2 hC hD (by omega) (D + 1) v (Nat.le_refl _) hv ⟨fun i' j' a1 a2 a3 => hT i' j' a1 a2 a3, fun j' a1 a2 => by omega⟩ F (by omega)
    have e : ∀ n, nI (n + 1) + (-1) = nI n := fun n => by rw [← nI_1, Int32.add_assoc]; exact Int32.add_zero _
    rw [e D] at g1
    have hb : g_X10_laysPairs_l52 F (nI C) (nI D) (nI m) v = some (.inl (nI m + (-1), w)) := by
      unfold g_X10_laysPairs_l52
      rw [if_neg (show ¬ nI m < 0 from nI_nlt (a := m) (b := 0) (by omega) (by omega)), g1, ob_i]
    rw [e, lp_l (body := fun (s : Int32 × rg_U) => g_X10_laysPairs_l52 F (nI C) (nI D) s.1 s.2) (s := (nI m, v)) hb]
    refine m_rowsl h1 h2 e1 e2 hC hD hF m w (by omega) g2 (fun i' j' a1 a2 a3 => ?_) G (by omega)
    by_cases z : i' = m
    · rw [z]; exact g3.2 j' (Nat.zero_le _) a3
    · exact g3.1 i' j' (by omega) a2 a3
end W_34
