/-! when, changed of the reference -/
def whA (u : rg_U) (r p : Nat) (s n : Int32) : Nat → Nat → Int32 × Nat
  | 0, _ => (-1, 0)
  | f + 1, b =>
    if hdA (fun m => (rpm u r m).1 p = s ∧ (rpm u r m).1 (40 + p) = n) (hk (Hm u r) (b / Ur u r) * Ur u r) (b - hk (Hm u r) (b / Ur u r) * Ur u r + 1) = -1 then
      (if hk (Hm u r) (b / Ur u r) * Ur u r = 0 then (-1, b) else ((whA u r p s n f (hk (Hm u r) (b / Ur u r) * Ur u r - 1)).1, (b - hk (Hm u r) (b / Ur u r) * Ur u r) + (whA u r p s n f (hk (Hm u r) (b / Ur u r) * Ur u r - 1)).2))
    else (hdA (fun m => (rpm u r m).1 p = s ∧ (rpm u r m).1 (40 + p) = n) (hk (Hm u r) (b / Ur u r) * Ur u r) (b - hk (Hm u r) (b / Ur u r) * Ur u r + 1), b - hk (Hm u r) (b / Ur u r) * Ur u r)
theorem hv_c {u v : rg_U} {r q : Nat} {x : Int32} (h : coreEq (cS u q x) v) : Hm v r = Hm u r ∧ Ur v r = Ur u r := by
  unfold Hm Ur
  rw [h.1 20 (by decide), h.1 23 (by decide), cS_n (by decide), cS_n (by decide)]
  exact ⟨rfl, rfl⟩
theorem m_whenl {F K W r p : Nat} {s n : Int32} {u : rg_U} (ha : act u K r) (hro : runOK u r) (hp : p < 40) (hF : 10000 < F) : ∀ (f b x : Nat) (v : rg_U), coreEq (cS u r (nI x)) v → okM v K W → b ≤ Tr u r → b < f → ∀ G, f + 1 < G → ∃ q w, lp (fun (s' : Int32 × rg_U) => g_X10_when_l41 F (nI p) s n (nI r) s'.1 s'.2) G (nI b, v) = some q ∧ os q (fun r29 => some (r29.1, r29.2)) (fun r30 => some ((-1 : Int32), r30)) = some ((whA u r p s n f b).1, w) ∧ coreEq (cS u r (nI (x + (whA u r p s n f b).2))) w ∧ okM w K W
  | 0, b, x, v, hv, hok, h1, h2, G, hG => by omega
  | f + 1, b, x, v, hv, hok, h1, h2, G, hG => by
    have hT3 := hro.2.2.2.2.2.2.1.1.2.2.2.1
    match G, hG with
    | 0, hG => omega
    | G + 1, hG =>
    have hav := act_v hv ha
    have hrov := hok.1.2.2.2.2.1 r hav
    have hr5 := act5 hok.1.1.2.1 hav
    obtain ⟨eH, eU⟩ := hv_c (r := r) hv
    have h0 : ¬ Hm v r 0 = 0 := by rw [eH, hro.2.2.2.2.2.2.2.1.1]; decide
    have hle : hk (Hm u r) (b / Ur u r) * Ur u r ≤ b := Nat.le_trans (Nat.mul_le_mul_right _ (hk_le _ _)) (Nat.div_mul_le_self b (Ur u r))
    have hby := m_heldBy (F := F) (t := b) hr5 h0 hrov.2.2.1 hrov.2.2.2.2.2.1.1 hrov.2.2.2.2.2.1.2.1 (by omega) hF
    rw [eH, eU] at hby
    show ∃ q w, _ = some q ∧ os q _ _ = some ((if hdA (fun m => (rpm u r m).1 p = s ∧ (rpm u r m).1 (40 + p) = n) (hk (Hm u r) (b / Ur u r) * Ur u r) (b - hk (Hm u r) (b / Ur u r) * Ur u r + 1) = -1 then
      (if hk (Hm u r) (b / Ur u r) * Ur u r = 0 then (-1, b) else ((whA u r p s n f (hk (Hm u r) (b / Ur u r) * Ur u r - 1)).1, (b - hk (Hm u r) (b / Ur u r) * Ur u r) + (whA u r p s n f (hk (Hm u r) (b / Ur u r) * Ur u r - 1)).2))
    else (hdA (fun m => (rpm u r m).1 p = s ∧ (rpm u r m).1 (40 + p) = n) (hk (Hm u r) (b / Ur u r) * Ur u r) (b - hk (Hm u r) (b / Ur u r) * Ur u r + 1), b - hk (Hm u r) (b / Ur u r) * Ur u r)).1, w) ∧ coreEq (cS u r (nI (x + (if hdA (fun m => (rpm u r m).1 p = s ∧ (rpm u r m).1 (40 + p) = n) (hk (Hm u r) (b / Ur u r) * Ur u r) (b - hk (Hm u r) (b / Ur u r) * Ur u r + 1) = -1 then
      (if hk (Hm u r) (b / Ur u r) * Ur u r = 0 then (-1, b) else ((whA u r p s n f (hk (Hm u r) (b / Ur u r) * Ur u r - 1)).1, (b - hk (Hm u r) (b / Ur u r) * Ur u r) + (whA u r p s n f (hk (Hm u r) (b / Ur u r) * Ur u r - 1)).2))
    else (hdA (fun m => (rpm u r m).1 p = s ∧ (rpm u r m).1 (40 + p) = n) (hk (Hm u r) (b / Ur u r) * Ur u r) (b - hk (Hm u r) (b / Ur u r) * Ur u r + 1), b - hk (Hm u r) (b / Ur u r) * Ur u r)).2))) w ∧ _
    generalize hk (Hm u r) (b / Ur u r) * Ur u r = a at *
    have hcv : coreEq (cS u r (nI (x + (b - a)))) (cS v r (nI (b - a))) := by
      have := cS_core (r := r) (x := nI (b - a)) hv
      rwa [cS_add, nI_add] at this
    have hokc : okM (cS v r (nI (b - a))) K W := ⟨core_cS hok.1, simM_cS hok.2⟩
    obtain ⟨e1, -, e3, -⟩ := eq_c (r := r) hcv
    obtain ⟨w, g1, g2, g3⟩ := m_hadIn (F := F) (a := a) (b := b) (p := p) (s := s) (n := n) hokc (act_v hcv ha) hle (by rw [e3]; exact h1) hp hF
    simp only [e1] at g1
    have hb : g_X10_when_l41 F (nI p) s n (nI r) (nI b) v = if hdA (fun m => (rpm u r m).1 p = s ∧ (rpm u r m).1 (40 + p) = n) a (b - a + 1) = -1 then some (.inl (nI a - 1, w)) else some (.inr (Sum.inl (hdA (fun m => (rpm u r m).1 p = s ∧ (rpm u r m).1 (40 + p) = n) a (b - a + 1), w))) := by
      unfold g_X10_when_l41
      rw [if_neg (nI_pos (by omega)), hby, ob_i, nI_sub hle, m_counts hr5, ob_i, g1, ob_i]
    have hcw := coreEq_t hcv g2
    by_cases z : hdA (fun m => (rpm u r m).1 p = s ∧ (rpm u r m).1 (40 + p) = n) a (b - a + 1) = -1
    · rw [if_pos z] at hb
      rw [lp_l (body := fun (s' : Int32 × rg_U) => g_X10_when_l41 F (nI p) s n (nI r) s'.1 s'.2) (s := (nI b, v)) hb, if_pos z]
      by_cases y : a = 0
      · rw [if_pos y]
        match G, hG with
        | 0, hG => omega
        | G + 1, hG =>
        have hb2 : g_X10_when_l41 F (nI p) s n (nI r) (nI a - 1) w = some (.inr (Sum.inr w)) := by
          unfold g_X10_when_l41
          rw [y, if_pos (by decide)]
        rw [lp_r (body := fun (s' : Int32 × rg_U) => g_X10_when_l41 F (nI p) s n (nI r) s'.1 s'.2) (s := (nI a - 1, w)) hb2]
        refine ⟨_, w, rfl, rfl, ?_, g3⟩
        dsimp only
        rw [y, Nat.sub_zero] at hcw
        exact hcw
      · rw [if_neg y, show nI a - 1 = nI (a - 1) from nI_sub (a := a) (b := 1) (by omega)]
        obtain ⟨q, w', k1, k2, k3, k4⟩ := m_whenl ha hro hp hF f (a - 1) (x + (b - a)) w hcw g3 (by omega) (by omega) G (by omega)
        refine ⟨q, w', k1, k2, ?_, k4⟩
        dsimp only
        rw [← Nat.add_assoc]
        exact k3
    · rw [if_neg z] at hb
      rw [lp_r (body := fun (s' : Int32 × rg_U) => g_X10_when_l41 F (nI p) s n (nI r) s'.1 s'.2) (s := (nI b, v)) hb, if_neg z]
      exact ⟨_, w, rfl, rfl, hcw, g3⟩
theorem whA_s {u : rg_U} {r p : Nat} {s n : Int32} : ∀ f b, whA (sF u 0 35 0) r p s n f b = whA u r p s n f b
  | 0, b => rfl
  | f + 1, b => by
    unfold whA
    rw [whA_s f]
    rfl
theorem m_when {F K W : Nat} {x y s n : Int32} {u : rg_U} (h : okM u K W) (hF : 10000 < F) : (¬ (isTm u x ∧ ¬ g_X10_isPlace y = 0 ∧ ¬ g_X10_isValue s n = 0) ∧ g_X10_when F x y s n u = some (-2, sF u 0 35 0) ∧ okM (sF u 0 35 0) K W) ∨ ∃ t p u', act u K (aR u) ∧ u.2.1 5 (aR u) = 1 ∧ t ≤ Tr u (aR u) ∧ x = nI t ∧ p < 40 ∧ y = nI p ∧ ¬ g_X10_isValue s n = 0 ∧ g_X10_when F x y s n u = some ((whA u (aR u) p s n 3001 t).1, u') ∧ okM u' K W ∧ coreEq (cS (sF u 0 35 0) (aR u) (nI (whA u (aR u) p s n 3001 t).2)) u' := by
  have h0 : okM (sF u 0 35 0) K W := okM_34 (by omega) h
  unfold g_X10_when
  rw [lt1_i]
  rcases m_time (F := F) (x := x) h0.1 with ⟨q1, q2⟩ | ⟨t, q1, q2, q3, q4, rfl⟩
  · rw [q1, ob_i, if_pos rfl]
    exact Or.inl ⟨fun w => q2 w.1, rfl, h0⟩
  rw [q1, ob_i, if_neg one_n0]
  by_cases qp : g_X10_isPlace y = 0
  · rw [if_pos qp]; exact Or.inl ⟨fun w => w.2.1 qp, rfl, h0⟩
  rw [if_neg qp]
  by_cases qv : g_X10_isValue s n = 0
  · rw [if_pos qv]; exact Or.inl ⟨fun w => w.2.2 qv, rfl, h0⟩
  rw [if_neg qv, m_ask h0.1, ob_i]
  obtain ⟨p, hp, rfl⟩ := isPl qp
  have hT3 : Tr u (aR u) ≤ 3000 := Tr3 h.1 q2
  have q4' : t ≤ Tr u (aR u) := q4
  obtain ⟨q, w, e1, e2, e3, e4⟩ := m_whenl (F := F) (K := K) (W := W) (r := aR u) (p := p) (s := s) (n := n) (u := sF u 0 35 0) q2 (h0.1.2.2.2.2.1 (aR u) q2) hp hF 3001 t 0 (sF u 0 35 0) rep_0 h0 q4' (by omega) F (by omega)
  rw [Nat.zero_add] at e3
  rw [show lp (fun (s' : Int32 × rg_U) => g_X10_when_l41 F (nI p) s n (nI (aR (sF u 0 35 0))) s'.1 s'.2) F (nI t, sF u 0 35 0) = some q from e1, ob_i, e2]
  rw [whA_s] at e3 ⊢
  exact Or.inr ⟨t, p, w, q2, q3, q4, rfl, hp, rfl, qv, rfl, e4, e3⟩
theorem okM_scr {u v : rg_U} {K W : Nat} (h : okM u K W) (hc : coreEq u v) (h31 : v.2.1 31 = u.2.1 31) (h37 : v.2.1 37 = u.2.1 37) (h41 : v.1 41 = u.1 41) (h42 : v.1 42 = u.1 42) : okM v K W := ⟨core_eq hc h.1, simM_c (u := u) (fun j _ h1 _ => hc.1 j h1) h31 h37 h41 h42 h.2⟩
/-- bits of the places whose changes are others in two rows -/
def chB (m m' : Row) (a : Nat) : Nat → Int32
  | 0 => 0
  | k + 1 => chB m m' a k ||| (if m' (80 + (a + k)) = m (80 + (a + k)) then 0 else dx_shl 1 (nI k))
theorem m_chl {F a n : Nat} {m : Row} {u : rg_U} (hm : ∀ i, i < 40 → u.2.1 32 i = m (80 + i)) (han : a + n ≤ 40) (hF : 10000 < F) : lp (fun (s : Int32 × Int32) => g_X10_changed_l119 F (nI a) (nI n) u s.1 s.2) F ((0 : Int32), (0 : Int32)) = some (chB m (u.2.1 31) a n) := by
  have h := lp_up (body := fun (s : Int32 × Int32) => g_X10_changed_l119 F (nI a) (nI n) u s.1 s.2) (fun k => (chB m (u.2.1 31) a k, nI k)) n (chB m (u.2.1 31) a n) (fun k hk => by
    show g_X10_changed_l119 F (nI a) (nI n) u (chB m (u.2.1 31) a k) (nI k) = _
    unfold g_X10_changed_l119 g_X10_changed_j162
    rw [if_neg (nI_ge hk (by omega)), c80, nI_add, nI_add, ck_t (inb_nI (by omega) (by decide)), ck_t (inb_nI (by omega) (by decide)), rA_nI (by omega), rA_nI (by omega), hm _ (by omega), nI_1, show 80 + a + k = 80 + (a + k) by omega]
    show _ = some (Sum.inl (chB m (u.2.1 31) a k ||| (if u.2.1 31 (80 + (a + k)) = m (80 + (a + k)) then 0 else dx_shl 1 (nI k)), nI (k + 1)))
    by_cases z : u.2.1 31 (80 + (a + k)) = m (80 + (a + k))
    · rw [if_pos z, if_pos z]
    · rw [if_neg z, if_neg z]) (by
    show g_X10_changed_l119 F (nI a) (nI n) u _ (nI n) = _
    unfold g_X10_changed_l119
    rw [if_pos (nI_le (Nat.le_refl _) (by omega))]) F 0 (Nat.zero_le _) (by omega)
  exact h
theorem m_ch1 {F : Nat} {a b c : Int32} {u : rg_U} (hF : 10000 < F) : ∃ v, lp (fun (s : Int32 × rg_U) => g_X10_changed_l50 F a b c s.1 s.2) F ((0 : Int32), u) = some v ∧ v.1 = u.1 ∧ ∀ j i, v.2.1 j i = if j = 32 ∧ i < 40 then u.2.1 31 (80 + i) else u.2.1 j i := by
  refine lp_ex (body := fun (s : Int32 × rg_U) => g_X10_changed_l50 F a b c s.1 s.2) (P := fun k s => ∃ m, k + m = 40 ∧ s.1 = nI m ∧ s.2.1 = u.1 ∧ ∀ j i, s.2.2.1 j i = if j = 32 ∧ i < m then u.2.1 31 (80 + i) else u.2.1 j i) (R := fun v => v.1 = u.1 ∧ ∀ j i, v.2.1 j i = if j = 32 ∧ i < 40 then u.2.1 31 (80 + i) else u.2.1 j i) ?_ F 40 ((0 : Int32), u) (by omega) ⟨0, rfl, rfl, rfl, fun j i => by rw [if_neg (by omega)]⟩
  rintro k ⟨s1, s2⟩ ⟨m, hm, e1, e2, hv⟩
  dsimp only at e1 e2 hv
  subst e1
  unfold g_X10_changed_l50
  dsimp only
  by_cases q : m = 40
  · right
    subst q
    exact ⟨s2, if_pos (by decide), e2, hv⟩
  · left
    rw [if_neg (show ¬ (40 : Int32) ≤ nI m from nI_ge (a := m) (b := 40) (by omega) (by decide)), c80, ck_t (inb_nI (by omega) (by decide)), ck_t (inb_nI (by omega) (by decide)), lt1_i, sA_nI (by omega), rA_nI (by omega), nI_1]
    refine ⟨_, k - 1, rfl, by omega, m + 1, by omega, rfl, e2, fun j i => ?_⟩
    rw [R_at, hv j i, hv 31 (80 + m), if_neg (show ¬ (31 = 32 ∧ 80 + m < m) by omega)]
    by_cases z : j = 32 ∧ i = m
    · rw [if_pos z, if_pos (show j = 32 ∧ i < m + 1 by omega), z.2]
    · rw [if_neg z]
      by_cases y : j = 32 ∧ i < m
      · rw [if_pos y, if_pos (show j = 32 ∧ i < m + 1 by omega)]
      · rw [if_neg y, if_neg (show ¬ (j = 32 ∧ i < m + 1) by omega)]
/-- a replay leaves the other arrays -/
theorem rep_arr {F K W r t : Nat} {u w : rg_U} (h : okM u K W) (hr : act u K r) (ht : t ≤ Tr u r) (hF : 10000 < F) (hw : g_X10_replays F (nI r) (nI t) u = some w) : ∀ j, j ≠ 25 → j ≠ 31 → w.2.1 j = u.2.1 j := by
  obtain ⟨hc, hs⟩ := h
  have hr5 := act5 hc.1.2.1 hr
  have hro := hc.2.2.2.2.1 r hr
  have hT3 := hro.2.2.2.2.2.2.1.1.2.2.2.1
  have fin : ∀ v x, v = cS u r x → g_X10_replays_j23 F (nI r) (nI t) v = some w → ∀ j, j ≠ 25 → j ≠ 31 → w.2.1 j = u.2.1 j := by
    intro v x hv hw j j1 j2
    have hcv : coreM v K W := by rw [hv]; exact core_cS hc
    have hsv : simM v K := by rw [hv]; exact simM_cS hs
    have hrv : act v K r := by rw [hv]; exact hr
    have eT : Tr v r = Tr u r := by rw [hv]; rfl
    obtain ⟨a, b, c, e⟩ := lay_all hcv hsv hrv (by rw [eT]; exact ht) hF
    unfold g_X10_replays_j23 at hw
    rw [e, ob_i] at hw
    have hw := Option.some.inj hw
    rw [← hw]
    show va_up v.2.1 31 _ j = _
    rw [pm_up_n j2, hv, cS_n j1]
  unfold g_X10_replays at hw
  rw [ck_t (inb_nI hr5 (by decide)), rA_nI (by omega), hro.2.1] at hw
  by_cases q : t = Tr u r
  · rw [if_pos (by rw [q])] at hw
    exact fin u 0 cS_0.symm hw
  · rw [if_neg (fun z => q (nI_inj (by omega) (by omega) z))] at hw
    have h0 : ¬ Hm u r 0 = 0 := by rw [hro.2.2.2.2.2.2.2.1.1]; decide
    have hle : hk (Hm u r) (t / Ur u r) * Ur u r ≤ t := Nat.le_trans (Nat.mul_le_mul_right _ (hk_le _ _)) (Nat.div_mul_le_self t (Ur u r))
    rw [m_heldBy hr5 h0 hro.2.2.1 hro.2.2.2.2.2.1.1 hro.2.2.2.2.2.1.2.1 (by omega) hF, ob_i, nI_sub hle, m_counts hr5, ob_i] at hw
    exact fin _ _ rfl hw
theorem m_changed {F K W : Nat} {x y : Int32} {u : rg_U} (h : okM u K W) (hF : 10000 < F) : (¬ (isTm u x ∧ ¬ x = u.2.1 21 (aR u) ∧ ¬ g_X10_isIn y 0 1 = 0) ∧ g_X10_changed F x y u = some (-1000001, sF u 0 35 0) ∧ okM (sF u 0 35 0) K W) ∨ ∃ t u', act u K (aR u) ∧ u.2.1 5 (aR u) = 1 ∧ t < Tr u (aR u) ∧ x = nI t ∧ ¬ g_X10_isIn y 0 1 = 0 ∧ g_X10_changed F x y u = some ((if y = 0 then chB (rpm u (aR u) t).1 (rpm u (aR u) (t + 1)).1 0 8 else chB (rpm u (aR u) t).1 (rpm u (aR u) (t + 1)).1 8 32), u') ∧ okM u' K W ∧ coreEq (cS (sF u 0 35 0) (aR u) (nI (costM u (aR u) t + costM u (aR u) (t + 1)))) u' := by
  have h0 : okM (sF u 0 35 0) K W := okM_34 (by omega) h
  unfold g_X10_changed
  rw [lt1_i, m_ask h0.1, ob_i]
  have h5 := (aR_ok h.1).1
  rcases m_time (F := F) (x := x) h0.1 with ⟨q1, q2⟩ | ⟨t, q1, q2, q3, q4, rfl⟩
  · rw [q1, ob_i, if_pos rfl]
    exact Or.inl ⟨fun w => q2 w.1, rfl, h0⟩
  rw [q1, ob_i, if_neg one_n0, show aR (sF u 0 35 0) = aR u from rfl, ck_t (inb_nI h5 (by decide)), rA_nI (by omega)]
  have hro := h.1.2.2.2.2.1 (aR u) q2
  have hT3 : Tr u (aR u) ≤ 3000 := Tr3 h.1 q2
  have q4' : t ≤ Tr u (aR u) := q4
  by_cases qt : nI t = (sF u 0 35 0).2.1 21 (aR u)
  · rw [if_pos qt]; exact Or.inl ⟨fun w => w.2.1 qt, rfl, h0⟩
  rw [if_neg qt]
  have htT : t < Tr u (aR u) := by
    rcases Nat.lt_or_ge t (Tr u (aR u)) with z | z
    · exact z
    · exact absurd (by rw [show t = Tr u (aR u) by omega]; exact hro.2.1.symm) qt
  by_cases qy : g_X10_isIn y 0 1 = 0
  · rw [if_pos qy]; exact Or.inl ⟨fun w => w.2.2 qy, rfl, h0⟩
  rw [if_neg qy]
  obtain ⟨w, e1, e2, e3, e4⟩ := rep_more (u := sF u 0 35 0) (x := 0) (t := t) rep_0 h0 q2 q4 hF
  rw [Nat.zero_add] at e2
  rw [show g_X10_replays F (nI (aR u)) (nI t) (sF u 0 35 0) = some w from e1, ob_i]
  obtain ⟨v, g1, g2, g3⟩ := m_ch1 (F := F) (a := nI t) (b := y) (c := nI (aR u)) (u := w) hF
  rw [g1, ob_i]
  have hcv : coreEq w v := ⟨fun j hj => by funext i; rw [g3, if_neg (by omega)], fun k _ => by rw [g2]⟩
  have hok : okM v K W := okM_scr e3 hcv (by funext i; rw [g3, if_neg (by omega)]) (by funext i; rw [g3, if_neg (by omega)]) (by rw [g2]) (by rw [g2])
  obtain ⟨w', k1, k2, k3, k4⟩ := rep_more (u := sF u 0 35 0) (t := t + 1) (coreEq_t e2 hcv) hok q2 (show t + 1 ≤ Tr u (aR u) by omega) hF
  rw [nI_1, show g_X10_replays F (nI (aR u)) (nI (t + 1)) v = some w' from k1, ob_i]
  refine Or.inr ⟨t, w', q2, q3, htT, rfl, qy, ?_, k3, k2⟩
  have h32 : ∀ i, i < 40 → w'.2.1 32 i = (rpm u (aR u) t).1 (80 + i) := by
    intro i hi
    obtain ⟨-, -, f3, -, -, -⟩ := eq_c (r := aR u) (coreEq_t e2 hcv)
    rw [rep_arr hok (act_v (coreEq_t e2 hcv) q2) (show t + 1 ≤ Tr v (aR u) by rw [f3]; exact htT) hF k1 32 (by decide) (by decide), g3, if_pos ⟨rfl, hi⟩, e4]
    rfl
  have h31 : w'.2.1 31 = (rpm u (aR u) (t + 1)).1 := k4
  by_cases y0 : y = 0
  · rw [if_pos y0, if_pos y0]
    unfold g_X10_changed_j101 g_X10_changed_j114
    rw [if_pos y0, show lp (fun (s : Int32 × Int32) => g_X10_changed_l119 F 0 8 w' s.1 s.2) F ((0 : Int32), (0 : Int32)) = some (chB (rpm u (aR u) t).1 (w'.2.1 31) 0 8) from m_chl (a := 0) (n := 8) h32 (by decide) hF, ob_i, h31]
  · rw [if_neg y0, if_neg y0]
    unfold g_X10_changed_j101 g_X10_changed_j114
    rw [if_neg y0, show lp (fun (s : Int32 × Int32) => g_X10_changed_l119 F 8 32 w' s.1 s.2) F ((0 : Int32), (0 : Int32)) = some (chB (rpm u (aR u) t).1 (w'.2.1 31) 8 32) from m_chl (a := 8) (n := 32) h32 (by decide) hF, ob_i, h31]
