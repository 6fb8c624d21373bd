/-! a step of the run that is now: what is taken, what is held -/
def stM (u : rg_U) (W : Nat) : Int32 := if u.2.1 28 132 = 0 then (if kindOf (Pm u 4) (u.2.1 28 120) = 19 ∧ W = 0 then 1 else if (kindOf (Pm u 4) (u.2.1 28 120) = 19 ∨ kindOf (Pm u 4) (u.2.1 28 120) = 20) ∧ nr u 4 = 800 then 3 else 0) else u.2.1 28 132
theorem live_ok {u : rg_U} {K W : Nat} (h : coreM u K W) (h1 : u.2.1 5 4 = 1) : okR (u.2.1 28) ∧ u.2.1 28 133 = nI (Tr u 4) := by
  have hro := h.2.2.2.2.1 4 (Or.inr ⟨rfl, h1⟩)
  rw [h.2.2.2.2.2.1 h1]
  have := rp_ok hro.2.2.2.2.2.2.1.1 (Tr u 4) (Nat.le_refl _)
  exact ⟨this.1, this.2.1⟩
theorem m_status {F K W : Nat} {u : rg_U} (h : coreM u K W) (h1 : u.2.1 5 4 = 1) : g_X10_status F u = some (stM u W) := by
  obtain ⟨⟨⟨cn, hc1, hc2⟩, -⟩, -⟩ := live_ok h h1
  have hro := h.2.2.2.2.1 4 (Or.inr ⟨rfl, h1⟩)
  have hn8 := hro.2.2.2.2.2.2.1.1.2.2.1
  have hW := h.2.2.2.2.2.2.1
  unfold g_X10_status stM
  have e132 : rA u 28 132 = u.2.1 28 132 := rfl
  have e120 : rA u 28 120 = nI cn := hc2
  rw [ck_t (by decide), ck_t (by decide), ck_t (by decide), e132, e120, show g_X10_kindAt F 4 (nI cn) u = some (kindOf (Pm u 4) (nI cn)) from m_kindAt (r := 4) (by decide) hc1, ob_i, hc2, show rF u 0 33 = nI W from hW.1]
  unfold g_X10_status_j48 g_X10_status_j60
  have e15 : rA u 15 4 = nI (nr u 4) := hro.1
  rw [ck_t (by decide), e15]
  have z15 : nI (nr u 4) = 800 ↔ nr u 4 = 800 := ⟨fun q => nI_inj (b := 800) (by omega) (by decide) q, fun q => by rw [q]; rfl⟩
  have zW : nI W = 0 ↔ W = 0 := ⟨fun q => nI_inj (b := 0) (by omega) (by decide) q, fun q => by rw [q]; rfl⟩
  simp only [z15, zW]
  by_cases q0 : u.2.1 28 132 = 0
  · rw [if_pos q0, if_pos q0]
    by_cases q1 : kindOf (Pm u 4) (nI cn) = 19
    · rw [if_pos q1]
      by_cases q2 : W = 0
      · rw [if_pos q2, if_pos ⟨q1, q2⟩]
      · rw [if_neg q2, if_pos q1, if_neg (show ¬ (kindOf (Pm u 4) (nI cn) = 19 ∧ W = 0) from fun z => q2 z.2)]
        by_cases q3 : nr u 4 = 800
        · rw [if_pos q3, if_pos ⟨Or.inl q1, q3⟩]
        · rw [if_neg q3, if_neg (fun z => q3 z.2)]
    · rw [if_neg q1, if_neg q1, if_neg (show ¬ (kindOf (Pm u 4) (nI cn) = 19 ∧ W = 0) from fun z => q1 z.1)]
      by_cases q2 : kindOf (Pm u 4) (nI cn) = 20
      · rw [if_pos q2]
        by_cases q3 : nr u 4 = 800
        · rw [if_pos q3, if_pos ⟨Or.inr q2, q3⟩]
        · rw [if_neg q3, if_neg (fun z => q3 z.2)]
      · rw [if_neg q2, if_neg (fun z => z.1.elim q1 q2)]
  · rw [if_neg q0, if_neg q0]
theorem m_takes {F n W : Nat} {u : rg_U} (h15 : u.2.1 15 4 = nI n) (hn : n < 800) (h33 : u.1 33 = nI W) (hW : 0 < W) (hW9 : W ≤ 900) (hF : 10000 < F) : ∃ v, g_X10_takesInput F u = some v ∧ v.1 = upd u.1 33 (nI (W - 1)) ∧ ∀ j i, v.2.1 j i = if j = 29 ∧ i < W - 1 then u.2.1 29 (i + 1) else (ntS u n 0 (u.2.1 29 0) (-1) 2).2.1 j i := by
  unfold g_X10_takesInput
  rw [ck_t (by decide), show rA u 29 0 = u.2.1 29 0 from rfl, m_notes h15 hn, ob_i, lt1_i, show rF (ntS u n 0 (u.2.1 29 0) (-1) 2) 0 33 = nI W from h33, show nI W - 1 = nI (W - 1) from nI_sub (a := W) (b := 1) hW]
  obtain ⟨r, e, hr⟩ := lp_ex (body := fun (s : Int32 × rg_U) => g_X10_takesInput_l25 F s.1 s.2) (P := fun k s => ∃ m, k + m = W - 1 ∧ s.1 = nI m ∧ s.2.1 = upd u.1 33 (nI (W - 1)) ∧ ∀ j i, s.2.2.1 j i = if j = 29 ∧ i < m then u.2.1 29 (i + 1) else (ntS u n 0 (u.2.1 29 0) (-1) 2).2.1 j i) (R := fun v => v.1 = upd u.1 33 (nI (W - 1)) ∧ ∀ j i, v.2.1 j i = if j = 29 ∧ i < W - 1 then u.2.1 29 (i + 1) else (ntS u n 0 (u.2.1 29 0) (-1) 2).2.1 j i) (by
    rintro k ⟨s1, s2⟩ ⟨m, hm, e1, e2, hv⟩
    dsimp only at e1 e2 hv
    subst e1
    unfold g_X10_takesInput_l25
    dsimp only
    have e33 : rF s2 0 33 = nI (W - 1) := by
      unfold rF
      rw [e2]
      exact pk_us
    rw [e33]
    by_cases q : m = W - 1
    · right
      subst q
      exact ⟨s2, if_pos (nI_le (Nat.le_refl _) (by omega)), e2, hv⟩
    · left
      rw [if_neg (nI_ge (by omega) (by omega)), nI_1, ck_t (inb_nI (by omega) (by decide)), ck_t (inb_nI (by omega) (by decide)), lt1_i, sA_nI (by omega), rA_nI (by omega)]
      refine ⟨_, k - 1, rfl, by omega, m + 1, by omega, rfl, e2, fun j i => ?_⟩
      rw [R_at, hv j i, hv 29 (m + 1), if_neg (show ¬ (29 = 29 ∧ m + 1 < m) by omega), ntS_n (j := 29) (by omega)]
      by_cases h1 : j = 29 ∧ i = m
      · obtain ⟨rfl, rfl⟩ := h1
        rw [if_pos ⟨rfl, rfl⟩, if_pos (show 29 = 29 ∧ i < i + 1 by omega)]
      · rw [if_neg h1]
        by_cases h2 : j = 29 ∧ i < m
        · rw [if_pos h2, if_pos (show j = 29 ∧ i < m + 1 by omega)]
        · rw [if_neg h2, if_neg (show ¬ (j = 29 ∧ i < m + 1) by omega)]) F (W - 1) ((0 : Int32), sF (ntS u n 0 (u.2.1 29 0) (-1) 2) 0 33 (nI (W - 1))) (by omega) ⟨0, by omega, rfl, rfl, fun j i => by rw [if_neg (by omega)]; rfl⟩
  exact ⟨r, by rw [ob_e e], hr⟩
theorem m_draws {F n : Nat} {b : Int32} {u : rg_U} (h15 : u.2.1 15 4 = nI n) (hn : n < 800) (hb : ¬ b = 0) : g_X10_draws F b u = some (ntS (sF u 0 34 (1664525 * u.1 34 + 1013904223)) n 1 (dx_rem (dx_ushr (1664525 * u.1 34 + 1013904223) 8) b) (-1) 2) := by
  unfold g_X10_draws
  rw [lt1_i, ck_t hb, m_notes (u := sF u 0 34 (1664525 * rF u 0 34 + 1013904223)) h15 hn, ob_i]
  rfl
/-- how many are held -/
def cH (H : Nat → Int32) : Nat → Nat
  | 0 => 0
  | k + 1 => cH H k + (if H k = 0 then 0 else 1)
theorem cH_le (H : Nat → Int32) : ∀ k, cH H k ≤ k
  | 0 => Nat.le_refl _
  | k + 1 => by
    unfold cH
    have := cH_le H k
    by_cases q : H k = 0
    · rw [if_pos q]; omega
    · rw [if_neg q]; omega
theorem m_heldMany {F r : Nat} {u : rg_U} (hr : r < 5) (hF : 10000 < F) : g_X10_heldMany F (nI r) u = some (nI (cH (Hm u r) 3001)) := by
  unfold g_X10_heldMany
  have h := lp_up (body := fun (s : Int32 × Int32) => g_X10_heldMany_l4 F (nI r) u s.1 s.2) (fun k => (nI (cH (Hm u r) k), nI k)) 3001 (nI (cH (Hm u r) 3001)) (fun k hk => by
    show g_X10_heldMany_l4 F (nI r) u (nI (cH (Hm u r) k)) (nI k) = _
    unfold g_X10_heldMany_l4
    rw [if_neg (show ¬ (3000 : Int32) < nI k from nI_nlt (a := 3000) (b := k) (by omega) (by decide)), heldAt_nI, ck_t (inb_nI (by omega) (by decide)), rA_nI (by omega), nI_1, ← Hm_k hk]
    show _ = some (Sum.inl (nI (cH (Hm u r) k + if Hm u r k = 0 then 0 else 1), nI (k + 1)))
    unfold g_X10_one
    by_cases q : Hm u r k = 0
    · rw [if_pos q, if_pos q, show nI (cH (Hm u r) k) + 0 = nI (cH (Hm u r) k + 0) from nI_add _ 0]
    · rw [if_neg q, if_neg q, nI_1]) (by
    show g_X10_heldMany_l4 F (nI r) u _ (nI 3001) = _
    unfold g_X10_heldMany_l4
    rw [if_pos (by decide)]) F 0 (Nat.zero_le _) (by omega)
  rw [show (nI (cH (Hm u r) 0), nI 0) = ((0 : Int32), (0 : Int32)) from rfl] at h
  rw [h]
  rfl
/-- what is held when the number w comes -/
def nH (H : Nat → Int32) (D w : Nat) : Nat → Int32 := fun k => if k = w then 1 else if (1 ≤ k ∧ k < w) ∧ gw k D ≤ w then 0 else H k
theorem m_comesl {F D w : Nat} {u : rg_U} (h24 : u.2.1 24 4 = nI D) (hD : D ≤ 8) (hw : w ≤ 3000) (hF : 10000 < F) : ∃ v, lp (fun (s : Int32 × rg_U) => g_X10_comes_l41 F (nI w) s.1 s.2) F ((1 : Int32), u) = some v ∧ v.1 = u.1 ∧ ∀ j i, v.2.1 j i = if j = 20 ∧ (12004 < i ∧ i < 12004 + w) ∧ gw (i - 12004) D ≤ w then 0 else u.2.1 j i := by
  refine lp_ex (body := fun (s : Int32 × rg_U) => g_X10_comes_l41 F (nI w) s.1 s.2) (P := fun k s => ∃ m, k + m = w + 1 ∧ 1 ≤ m ∧ s.1 = nI m ∧ s.2.1 = u.1 ∧ ∀ j i, s.2.2.1 j i = if j = 20 ∧ (12004 < i ∧ i < 12004 + m ∧ i < 12004 + w) ∧ gw (i - 12004) D ≤ w then 0 else u.2.1 j i) (R := fun v => v.1 = u.1 ∧ ∀ j i, v.2.1 j i = if j = 20 ∧ (12004 < i ∧ i < 12004 + w) ∧ gw (i - 12004) D ≤ w then 0 else u.2.1 j i) ?_ F w ((1 : Int32), u) (by omega) ⟨1, by omega, by omega, rfl, rfl, fun j i => by rw [if_neg (by omega)]⟩
  rintro k ⟨s1, s2⟩ ⟨m, hm, hm1, e1, e2, hv⟩
  dsimp only at e1 e2 hv
  subst e1
  unfold g_X10_comes_l41 g_X10_comes_j85
  dsimp only
  by_cases q : w ≤ m
  · right
    refine ⟨s2, if_pos (nI_le q (by omega)), e2, fun j i => ?_⟩
    rw [hv j i]
    by_cases z : j = 20 ∧ (12004 < i ∧ i < 12004 + w) ∧ gw (i - 12004) D ≤ w
    · rw [if_pos z, if_pos (by omega)]
    · rw [if_neg z, if_neg (by omega)]
  · left
    have e24 : rA s2 24 4 = nI D := by
      show s2.2.1 24 4 = _
      rw [hv, if_neg (by omega)]
      exact h24
    have hg := gw_le (k := m) (d := D) (by omega) (by omega) hD
    rw [if_neg (nI_ge (by omega) (by omega)), show g_X10_heldAt 4 (nI m) = nI (12004 + m) from heldAt_nI (r := 4) (k := m), ck_t (inb_nI (by omega) (by decide)), ck_t (inb_nI (by omega) (by decide)), rA_nI (by omega), ck_t (by decide), e24, m_goesWith (by omega) (by omega) hD (by omega), ob_i, lt1_i, sZ_nI (by omega), nar0, nI_1]
    have em : s2.2.1 20 (12004 + m) = u.2.1 20 (12004 + m) := by rw [hv, if_neg (by omega)]
    by_cases q2 : s2.2.1 20 (12004 + m) = 0
    · rw [if_pos q2]
      refine ⟨_, k - 1, rfl, by omega, m + 1, by omega, by omega, rfl, e2, fun j i => ?_⟩
      rw [hv j i]
      by_cases z : j = 20 ∧ i = 12004 + m
      · obtain ⟨rfl, rfl⟩ := z
        rw [if_neg (by omega), ← em, q2]
        by_cases y : 20 = 20 ∧ (12004 < 12004 + m ∧ 12004 + m < 12004 + (m + 1) ∧ 12004 + m < 12004 + w) ∧ gw (12004 + m - 12004) D ≤ w
        · rw [if_pos y]
        · rw [if_neg y]
      · by_cases y : j = 20 ∧ (12004 < i ∧ i < 12004 + m ∧ i < 12004 + w) ∧ gw (i - 12004) D ≤ w
        · rw [if_pos y, if_pos (by omega)]
        · rw [if_neg y, if_neg (by omega)]
    · rw [if_neg q2]
      by_cases q3 : w < gw m D
      · rw [if_pos (nI_lt q3 (by omega))]
        refine ⟨_, k - 1, rfl, by omega, m + 1, by omega, by omega, rfl, e2, fun j i => ?_⟩
        rw [hv j i]
        by_cases y : j = 20 ∧ (12004 < i ∧ i < 12004 + m ∧ i < 12004 + w) ∧ gw (i - 12004) D ≤ w
        · rw [if_pos y, if_pos (by omega)]
        · rw [if_neg y]
          by_cases z : i = 12004 + m
          · subst z
            rw [if_neg (by rw [show 12004 + m - 12004 = m by omega]; omega)]
          · rw [if_neg (by omega)]
      · rw [if_neg (nI_nlt (by omega) (by omega))]
        refine ⟨_, k - 1, rfl, by omega, m + 1, by omega, by omega, rfl, e2, fun j i => ?_⟩
        rw [R_at, hv j i]
        by_cases z : j = 20 ∧ i = 12004 + m
        · rw [if_pos z]
          obtain ⟨rfl, rfl⟩ := z
          rw [if_pos (by rw [show 12004 + m - 12004 = m by omega]; omega)]
        · rw [if_neg z]
          by_cases y : j = 20 ∧ (12004 < i ∧ i < 12004 + m ∧ i < 12004 + w) ∧ gw (i - 12004) D ≤ w
          · rw [if_pos y, if_pos (by omega)]
          · rw [if_neg y, if_neg (by omega)]
/-- time t has come: nothing, or the state is held and what goes by it goes -/
theorem m_comes {F t U D : Nat} {u : rg_U} (h21 : u.2.1 21 4 = nI t) (h23 : u.2.1 23 4 = nI U) (h24 : u.2.1 24 4 = nI D) (ht : t ≤ 3000) (ht1 : 1 ≤ t) (hU : 0 < U) (hU6 : U ≤ 64) (hD : D ≤ 8) (hF : 10000 < F) : ∃ v, g_X10_comes F u = some v ∧ v.1 = u.1 ∧ (∀ j, j ≠ 20 → j ≠ 26 → v.2.1 j = u.2.1 j) ∧ (∀ i, i < 12004 → v.2.1 20 i = u.2.1 20 i) ∧ (∀ i, i ≠ 4 → v.2.1 26 i = u.2.1 26 i) ∧ ((¬ t % U = 0 ∧ v = u) ∨ (t % U = 0 ∧ (∀ k, k ≤ 3000 → Hm v 4 k = nH (Hm u 4) D (t / U) k) ∧ v.2.1 26 4 = imax (u.2.1 26 4) (nI (cH (Hm v 4) 3001)))) := by
  have hd : t / U ≤ 3000 := Nat.le_trans (Nat.div_le_self t U) ht
  have hd0 : 0 ≤ t / U := Nat.zero_le _
  unfold g_X10_comes
  have e21 : rA u 21 4 = nI t := h21
  have e23 : rA u 23 4 = nI U := h23
  rw [ck_t (by decide), ck_t (by decide), e21, e23, ck_t (nI_ne0 hU (by omega)), show dx_rem (nI t) (nI U) = nI (t % U) from pk_rem (by omega) hU (by omega)]
  by_cases q : t % U = 0
  · rw [if_pos (by rw [q]; rfl), ck_t (by decide), ck_t (nI_ne0 hU (by omega)), pk_div (by omega) hU (by omega), show g_X10_heldAt 4 (nI (t / U)) = nI (12004 + t / U) from heldAt_nI (r := 4), ck_t (inb_nI (by omega) (by decide)), lt1_i, sZ_nI (by omega), nar1]
    obtain ⟨v, e, f1, hv⟩ := m_comesl (F := F) (D := D) (w := t / U) (u := rg_R u 20 (12004 + t / U) 1) h24 hD hd hF
    rw [e, ob_i, ck_t (by decide), show g_X10_heldMany F 4 v = some (nI (cH (Hm v 4) 3001)) from m_heldMany (r := 4) (by decide) hF, ob_i, ck_t (by decide), lt1_i]
    have e26 : rA v 26 4 = u.2.1 26 4 := by
      show v.2.1 26 4 = _
      rw [hv, if_neg (by omega)]
      rfl
    rw [e26]
    have hw4 : sA v 26 4 (imax (u.2.1 26 4) (nI (cH (Hm v 4) 3001))) = rg_R v 26 4 (imax (u.2.1 26 4) (nI (cH (Hm v 4) 3001))) := rfl
    rw [hw4]
    have hH : Hm (rg_R v 26 4 (imax (u.2.1 26 4) (nI (cH (Hm v 4) 3001)))) 4 = Hm v 4 := rfl
    refine ⟨_, rfl, f1, fun j h1 h2 => ?_, fun i hi => ?_, fun i hi => ?_, Or.inr ⟨q, fun k hk => ?_, ?_⟩⟩
    · funext i
      rw [R_at, if_neg (fun z => h2 z.1), hv, if_neg (fun z => h1 z.1), R_at, if_neg (fun z => h1 z.1)]
    · rw [R_at, if_neg (by omega), hv, if_neg (by omega), R_at, if_neg (by omega)]
    · rw [R_at, if_neg (by omega), hv, if_neg (by omega), R_at, if_neg (by omega)]
    · rw [hH, Hm_k (by omega), hv, R_at]
      unfold nH
      by_cases z1 : k = t / U
      · rw [if_pos z1, if_neg (by omega), if_pos (by omega)]
      · rw [if_neg z1]
        by_cases z2 : (1 ≤ k ∧ k < t / U) ∧ gw k D ≤ t / U
        · rw [if_pos z2, if_pos (by rw [show 3001 * 4 + k - 12004 = k by omega]; omega)]
        · rw [if_neg z2, if_neg (by rw [show 3001 * 4 + k - 12004 = k by omega]; omega), if_neg (by omega), Hm_k (by omega)]
    · rw [hH, R_at, if_pos ⟨rfl, rfl⟩]
  · rw [if_neg (nI_ne0 (by omega) (by have := Nat.mod_lt t hU; omega))]
    exact ⟨u, rfl, rfl, fun _ _ _ => rfl, fun _ _ => rfl, fun _ _ => rfl, Or.inl ⟨q, rfl⟩⟩
