/-! call, log, held, look of the reference -/
def caA (u : rg_U) (x y : Int32) : Int32 := if u.2.1 5 (aR u) = 0 then -1 else if x = -1 then nI (Cr u (aR u)) else if g_X10_isIn x 0 (nI (Cr u (aR u)) - 1) = 0 then -1 else if y = 0 then u.2.1 16 (100 * aR u + tn x) else if y = 1 then u.2.1 17 (100 * aR u + tn x) else if y = 2 then u.2.1 18 (100 * aR u + tn x) else -1
theorem in_bel {x : Int32} {n : Nat} (h : ¬ g_X10_isIn x 0 (nI n - 1) = 0) (hn : n < 2 ^ 31) : ∃ i, i < n ∧ x = nI i := by
  obtain ⟨k, e, k1, k2⟩ := in_nat h (by decide)
  rcases Nat.eq_zero_or_pos n with z | z
  · subst z
    have : (nI 0 - 1 : Int32).toInt = -1 := by decide
    omega
  · rw [show nI n - 1 = nI (n - 1) from nI_sub (a := n) (b := 1) (by omega), nI_toInt (by omega)] at k2
    exact ⟨k, by omega, e⟩
theorem m_call {F K W : Nat} {x y : Int32} {u : rg_U} (h : coreM u K W) : g_X10_call F x y u = some (caA u x y) := by
  obtain ⟨h5, hr⟩ := aR_ok h
  unfold g_X10_call caA
  rw [m_ask h, ob_i, ck_t (inb_nI h5 (by decide)), ck_t (inb_nI h5 (by decide)), ck_t (inb_nI h5 (by decide)), rA_nI (by omega), rA_nI (by omega)]
  rcases hr with q | ⟨q, ha⟩
  · rw [if_pos q, if_pos q]
  have q0 : ¬ u.2.1 5 (aR u) = 0 := by rw [q]; decide
  rw [if_neg q0, if_neg q0]
  have hro := h.2.2.2.2.1 _ ha
  have hC := hro.2.2.2.2.2.2.2.2.1
  rw [hro.2.2.2.2.1]
  by_cases x1 : x = -1
  · rw [if_pos x1, if_pos x1]
  rw [if_neg x1, if_neg x1]
  by_cases x2 : g_X10_isIn x 0 (nI (Cr u (aR u)) - 1) = 0
  · rw [if_pos x2, if_pos x2]
  rw [if_neg x2, if_neg x2]
  obtain ⟨i, hi, rfl⟩ := in_bel x2 (by omega)
  rw [show (100 : Int32) * nI (aR u) + nI i = nI (100 * aR u + i) by rw [show (100 : Int32) * nI (aR u) = nI (100 * aR u) from pk_mul 100 _, nI_add], ck_t (inb_nI (by omega) (by decide)), ck_t (inb_nI (by omega) (by decide)), ck_t (inb_nI (by omega) (by decide)), rA_nI (by omega), rA_nI (by omega), rA_nI (by omega), tnn (by omega)]
  by_cases y0 : y = 0
  · rw [if_pos y0, if_pos y0]
  rw [if_neg y0, if_neg y0]
  by_cases y1 : y = 1
  · rw [if_pos y1, if_pos y1]
  rw [if_neg y1, if_neg y1]
  by_cases y2 : y = 2
  · rw [if_pos y2, if_pos y2]
  rw [if_neg y2, if_neg y2]
def lgA (u : rg_U) (x y : Int32) : Int32 := if u.2.1 5 (aR u) = 0 then -1000001 else if x = -1 then nI (nr u (aR u)) else if g_X10_isIn x 0 (nI (nr u (aR u)) - 1) = 0 then -1000001 else if y = 0 then u.2.1 10 (800 * aR u + tn x) else if y = 1 then u.2.1 11 (800 * aR u + tn x) else if y = 2 then u.2.1 12 (800 * aR u + tn x) else if y = 3 then u.2.1 13 (800 * aR u + tn x) else if y = 4 then u.2.1 14 (800 * aR u + tn x) else -1000001
theorem m_log {F K W : Nat} {x y : Int32} {u : rg_U} (h : coreM u K W) : g_X10_log F x y u = some (lgA u x y) := by
  obtain ⟨h5, hr⟩ := aR_ok h
  unfold g_X10_log lgA
  rw [m_ask h, ob_i, ck_t (inb_nI h5 (by decide)), ck_t (inb_nI h5 (by decide)), ck_t (inb_nI h5 (by decide)), rA_nI (by omega), rA_nI (by omega)]
  rcases hr with q | ⟨q, ha⟩
  · rw [if_pos q, if_pos q]
  have q0 : ¬ u.2.1 5 (aR u) = 0 := by rw [q]; decide
  rw [if_neg q0, if_neg q0]
  have hro := h.2.2.2.2.1 _ ha
  have hC := hro.2.2.2.2.2.2.1.1.2.2.1
  rw [hro.1]
  by_cases x1 : x = -1
  · rw [if_pos x1, if_pos x1]
  rw [if_neg x1, if_neg x1]
  by_cases x2 : g_X10_isIn x 0 (nI (nr u (aR u)) - 1) = 0
  · rw [if_pos x2, if_pos x2]
  rw [if_neg x2, if_neg x2]
  obtain ⟨i, hi, rfl⟩ := in_bel x2 (by omega)
  rw [show (800 : Int32) * nI (aR u) + nI i = nI (800 * aR u + i) by rw [show (800 : Int32) * nI (aR u) = nI (800 * aR u) from pk_mul 800 _, nI_add], ck_t (inb_nI (by omega) (by decide)), ck_t (inb_nI (by omega) (by decide)), ck_t (inb_nI (by omega) (by decide)), ck_t (inb_nI (by omega) (by decide)), ck_t (inb_nI (by omega) (by decide)), rA_nI (by omega), rA_nI (by omega), rA_nI (by omega), rA_nI (by omega), rA_nI (by omega), tnn (by omega)]
  by_cases y0 : y = 0
  · rw [if_pos y0, if_pos y0]
  rw [if_neg y0, if_neg y0]
  by_cases y1 : y = 1
  · rw [if_pos y1, if_pos y1]
  rw [if_neg y1, if_neg y1]
  by_cases y2 : y = 2
  · rw [if_pos y2, if_pos y2]
  rw [if_neg y2, if_neg y2]
  by_cases y3 : y = 3
  · rw [if_pos y3, if_pos y3]
  rw [if_neg y3, if_neg y3]
  by_cases y4 : y = 4
  · rw [if_pos y4, if_pos y4]
  rw [if_neg y4, if_neg y4]
/-- the number of the x-th of what is held, from the number k on with c before it -/
def hlF (H : Nat → Int32) (x : Int32) : Nat → Nat → Nat → Option Nat
  | 0, _, _ => none
  | f + 1, c, k => if H k = 0 then hlF H x f c (k + 1) else if nI c = x then some k else hlF H x f (c + 1) (k + 1)
theorem hlF_lt {H : Nat → Int32} {x : Int32} : ∀ f c k j, hlF H x f c k = some j → j < k + f ∧ k ≤ j
  | 0, c, k, j, h => by cases h
  | f + 1, c, k, j, h => by
    unfold hlF at h
    by_cases q : H k = 0
    · rw [if_pos q] at h
      have := hlF_lt f c (k + 1) j h
      omega
    · rw [if_neg q] at h
      by_cases z : nI c = x
      · rw [if_pos z] at h
        have := Option.some.inj h
        omega
      · rw [if_neg z] at h
        have := hlF_lt f (c + 1) (k + 1) j h
        omega
theorem m_heldl {F r : Nat} {x y : Int32} {u : rg_U} (hr : r < 5) : ∀ (f c k : Nat), f + k = 3001 → ∀ G, f < G → lp (fun (s : Int32 × Int32) => g_X10_held_l33 F x y (nI r) u s.1 s.2) G (nI c, nI k) = some (match hlF (Hm u r) x f c k with | none => Sum.inr () | some j => Sum.inl (nI j))
  | f, c, k, hf, 0, hG => by omega
  | 0, c, k, hf, G + 1, hG => by
    refine lp_r ?_
    unfold g_X10_held_l33
    dsimp only
    rw [if_pos (show (3000 : Int32) < nI k from nI_lt (a := 3000) (by omega) (by omega))]
    rfl
  | f + 1, c, k, hf, G + 1, hG => by
    have hb : g_X10_held_l33 F x y (nI r) u (nI c) (nI k) = if Hm u r k = 0 then some (.inl (nI c, nI (k + 1))) else if nI c = x then some (.inr (Sum.inl (nI k))) else some (.inl (nI (c + 1), nI (k + 1))) := by
      unfold g_X10_held_l33 g_X10_held_j117
      rw [if_neg (show ¬ (3000 : Int32) < nI k from nI_nlt (a := 3000) (b := k) (by omega) (by decide)), heldAt_nI, ck_t (inb_nI (by omega) (by decide)), rA_nI (by omega), nI_1, nI_1, ← Hm_k (by omega)]
    unfold hlF
    by_cases q : Hm u r k = 0
    · rw [if_pos q] at hb
      rw [lp_l (body := fun (s : Int32 × Int32) => g_X10_held_l33 F x y (nI r) u s.1 s.2) (s := (nI c, nI k)) hb, if_pos q]
      exact m_heldl hr f c (k + 1) (by omega) G (by omega)
    · rw [if_neg q] at hb
      rw [if_neg q]
      by_cases z : nI c = x
      · rw [if_pos z] at hb
        rw [lp_r (body := fun (s : Int32 × Int32) => g_X10_held_l33 F x y (nI r) u s.1 s.2) (s := (nI c, nI k)) hb, if_pos z]
      · rw [if_neg z] at hb
        rw [lp_l (body := fun (s : Int32 × Int32) => g_X10_held_l33 F x y (nI r) u s.1 s.2) (s := (nI c, nI k)) hb, if_neg z]
        exact m_heldl hr f (c + 1) (k + 1) (by omega) G (by omega)
def heA (u : rg_U) (x y : Int32) : Int32 := if u.2.1 5 (aR u) = 0 then -1 else if x = -1 then nI (cH (Hm u (aR u)) 3001) else match hlF (Hm u (aR u)) x 3001 0 0 with
  | none => -1
  | some k => if y = 0 then nI (k * Ur u (aR u)) else if y = 1 then (if k = 0 then -1 else nI (gw k (Dr u (aR u)) * Ur u (aR u))) else -1
theorem m_held {F K W : Nat} {x y : Int32} {u : rg_U} (h : coreM u K W) (hF : 10000 < F) : g_X10_held F x y u = some (heA u x y) := by
  obtain ⟨h5, hr⟩ := aR_ok h
  unfold g_X10_held heA
  rw [m_ask h, ob_i, ck_t (inb_nI h5 (by decide)), rA_nI (by omega)]
  rcases hr with q | ⟨q, ha⟩
  · rw [if_pos q, if_pos q]
  have q0 : ¬ u.2.1 5 (aR u) = 0 := by rw [q]; decide
  rw [if_neg q0, if_neg q0]
  have hro := h.2.2.2.2.1 _ ha
  by_cases x1 : x = -1
  · rw [if_pos x1, if_pos x1, m_heldMany h5 hF, ob_i]
  rw [if_neg x1, if_neg x1, show lp (fun (s : Int32 × Int32) => g_X10_held_l33 F x y (nI (aR u)) u s.1 s.2) F ((0 : Int32), (0 : Int32)) = _ from m_heldl (F := F) (x := x) (y := y) h5 3001 0 0 rfl F (by omega), ob_i]
  cases e : hlF (Hm u (aR u)) x 3001 0 0 with
  | none => rfl
  | some k =>
    have hk := (hlF_lt 3001 0 0 k e).1
    show (if y = 0 then _ else _) = some (if y = 0 then _ else _)
    rw [ck_t (inb_nI h5 (by decide)), rA_nI (by omega), hro.2.2.1, pk_mul]
    by_cases y0 : y = 0
    · rw [if_pos y0, if_pos y0]
    rw [if_neg y0, if_neg y0]
    by_cases y1 : y = 1
    · rw [if_pos y1, if_pos y1]
      by_cases k0 : k = 0
      · rw [if_pos (show nI k ≤ 0 by rw [k0]; decide), if_pos k0]
      · rw [if_neg (show ¬ nI k ≤ 0 from nI_ge (a := 0) (b := k) (by omega) (by omega)), if_neg k0, ck_t (inb_nI h5 (by decide)), rA_nI (by omega), hro.2.2.2.1, m_goesWith (by omega) (by omega) hro.2.2.2.2.2.1.2.2.2 (by omega), ob_i, ck_t (inb_nI h5 (by decide)), pk_mul]
    · rw [if_neg y1, if_neg y1]
