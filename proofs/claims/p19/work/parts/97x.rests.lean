/-! rests, hangs of the reference: the bits -/
theorem shr5 {k : Nat} (h : k < 2 ^ 31) : dx_shr (nI k) 5 = nI (k / 32) := by
  have := pk_shrN h (5 &&& 31) 5 (by decide)
  exact this
def addB (A : Nat → Int32) (k : Nat) : Nat → Int32 := upd A (k / 32) (A (k / 32) ||| dx_shl 1 (nI k &&& 31))
theorem m_adds {F k : Nat} {v : rg_U} (hk : k < 3808) : g_X10_adds F (nI k) v = some (rw_ v 34 (addB (v.2.1 34) k)) := by
  unfold g_X10_adds
  rw [shr5 (by omega), ck_t (inb_nI (by omega) (by decide)), ck_t (inb_nI (by omega) (by decide)), lt1_i, sA_nI (by omega), rA_nI (by omega)]
  rfl
def clA (A : Nat → Int32) : Nat → Int32 := fun i => if i < 119 then 0 else A i
def orB (A R : Nat → Int32) (p : Nat) : Nat → Int32 := fun i => if i < 119 then A i ||| R (119 * p + i) else A i
def stR (R A : Nat → Int32) (p : Nat) : Nat → Int32 := fun i => if 119 * p ≤ i ∧ i < 119 * p + 119 then A (i - 119 * p) else R i
theorem rw_ext {u v : rg_U} {o : Nat} {m : Nat → Int32} (h1 : v.1 = u.1) (h2 : v.2.2 = u.2.2) (h : ∀ j i, v.2.1 j i = if j = o then m i else u.2.1 j i) : v = rw_ u o m := by
  refine Prod.ext h1 (Prod.ext ?_ h2)
  funext j i
  show v.2.1 j i = va_up u.2.1 o m j i
  rw [h]
  by_cases q : j = o
  · rw [if_pos q, q, pm_up_s]
  · rw [if_neg q, pm_up_n q]
theorem m_clearsLooked {F : Nat} {v : rg_U} (hF : 10000 < F) : g_X10_clearsLooked F v = some (rw_ v 34 (clA (v.2.1 34))) := by
  obtain ⟨w, e, w1, w2, w3⟩ := lp_ex (body := fun (s : Int32 × rg_U) => g_X10_clearsLooked_l2 F s.1 s.2) (P := fun k s => ∃ m, k + m = 119 ∧ s.1 = nI m ∧ s.2.1 = v.1 ∧ s.2.2.2 = v.2.2 ∧ ∀ j i, s.2.2.1 j i = if j = 34 ∧ i < m then 0 else v.2.1 j i) (R := fun w => w.1 = v.1 ∧ w.2.2 = v.2.2 ∧ ∀ j i, w.2.1 j i = if j = 34 ∧ i < 119 then 0 else v.2.1 j i) (by
    rintro k ⟨s1, s2⟩ ⟨m, hm, e1, e2, e3, hv⟩
    dsimp only at e1 e2 e3 hv
    subst e1
    unfold g_X10_clearsLooked_l2
    dsimp only
    by_cases q : m = 119
    · right
      subst q
      exact ⟨s2, if_pos (by decide), e2, e3, hv⟩
    · left
      rw [if_neg (show ¬ (119 : Int32) ≤ nI m from nI_ge (a := m) (b := 119) (by omega) (by decide)), ck_t (inb_nI (by omega) (by decide)), lt1_i, sA_nI (by omega), nI_1]
      refine ⟨_, k - 1, rfl, by omega, m + 1, by omega, rfl, e2, e3, fun j i => ?_⟩
      rw [R_at, hv j i]
      by_cases z : j = 34 ∧ i = m
      · rw [if_pos z, if_pos (show j = 34 ∧ i < m + 1 by omega)]
      · rw [if_neg z]
        by_cases y : j = 34 ∧ i < m
        · rw [if_pos y, if_pos (show j = 34 ∧ i < m + 1 by omega)]
        · rw [if_neg y, if_neg (show ¬ (j = 34 ∧ i < m + 1) by omega)]) F 119 ((0 : Int32), v) (by omega) ⟨0, rfl, rfl, rfl, rfl, fun j i => by rw [if_neg (by omega)]⟩
  unfold g_X10_clearsLooked
  rw [e, ob_i, rw_ext (u := v) (v := w) (o := 34) (m := clA (v.2.1 34)) w1 w2 (fun j i => ?_)]
  rw [w3]
  unfold clA
  by_cases q : j = 34
  · subst q
    by_cases z : i < 119
    · rw [if_pos ⟨rfl, z⟩, if_pos rfl, if_pos z]
    · rw [if_neg (fun y => z y.2), if_pos rfl, if_neg z]
  · rw [if_neg (fun y => q y.1), if_neg q]
theorem m_looksAt {F p : Nat} {v : rg_U} (hp : p < 40) (hF : 10000 < F) : g_X10_looksAt F (nI p) v = some (rw_ v 34 (orB (v.2.1 34) (v.2.1 33) p)) := by
  obtain ⟨w, e, w1, w2, w3⟩ := lp_ex (body := fun (s : Int32 × rg_U) => g_X10_looksAt_l2 F (nI p) s.1 s.2) (P := fun k s => ∃ m, k + m = 119 ∧ s.1 = nI m ∧ s.2.1 = v.1 ∧ s.2.2.2 = v.2.2 ∧ ∀ j i, s.2.2.1 j i = if j = 34 ∧ i < m then v.2.1 34 i ||| v.2.1 33 (119 * p + i) else v.2.1 j i) (R := fun w => w.1 = v.1 ∧ w.2.2 = v.2.2 ∧ ∀ j i, w.2.1 j i = if j = 34 ∧ i < 119 then v.2.1 34 i ||| v.2.1 33 (119 * p + i) else v.2.1 j i) (by
    rintro k ⟨s1, s2⟩ ⟨m, hm, e1, e2, e3, hv⟩
    dsimp only at e1 e2 e3 hv
    subst e1
    unfold g_X10_looksAt_l2
    dsimp only
    by_cases q : m = 119
    · right
      subst q
      exact ⟨s2, if_pos (by decide), e2, e3, hv⟩
    · left
      rw [if_neg (show ¬ (119 : Int32) ≤ nI m from nI_ge (a := m) (b := 119) (by omega) (by decide)), show (119 : Int32) * nI p + nI m = nI (119 * p + m) by rw [show (119 : Int32) * nI p = nI (119 * p) from pk_mul 119 _, nI_add], ck_t (inb_nI (by omega) (by decide)), ck_t (inb_nI (by omega) (by decide)), ck_t (inb_nI (by omega) (by decide)), lt1_i, sA_nI (by omega), rA_nI (by omega), rA_nI (by omega), nI_1]
      refine ⟨_, k - 1, rfl, by omega, m + 1, by omega, rfl, e2, e3, fun j i => ?_⟩
      rw [R_at, hv j i, hv 34 m, hv 33 (119 * p + m), if_neg (show ¬ (34 = 34 ∧ m < m) by omega), if_neg (show ¬ (33 = 34 ∧ 119 * p + m < m) by omega)]
      by_cases z : j = 34 ∧ i = m
      · rw [if_pos z, if_pos (show j = 34 ∧ i < m + 1 by omega), z.2]
      · rw [if_neg z]
        by_cases y : j = 34 ∧ i < m
        · rw [if_pos y, if_pos (show j = 34 ∧ i < m + 1 by omega)]
        · rw [if_neg y, if_neg (show ¬ (j = 34 ∧ i < m + 1) by omega)]) F 119 ((0 : Int32), v) (by omega) ⟨0, rfl, rfl, rfl, rfl, fun j i => by rw [if_neg (by omega)]⟩
  unfold g_X10_looksAt
  rw [e, ob_i, rw_ext (u := v) (v := w) (o := 34) (m := orB (v.2.1 34) (v.2.1 33) p) w1 w2 (fun j i => ?_)]
  rw [w3]
  unfold orB
  by_cases q : j = 34
  · subst q
    by_cases z : i < 119
    · rw [if_pos ⟨rfl, z⟩, if_pos rfl, if_pos z]
    · rw [if_neg (fun y => z y.2), if_pos rfl, if_neg z]
  · rw [if_neg (fun y => q y.1), if_neg q]
theorem m_restsOn {F p : Nat} {v : rg_U} (hp : p < 40) (hF : 10000 < F) : g_X10_restsOn F (nI p) v = some (rw_ v 33 (stR (v.2.1 33) (v.2.1 34) p)) := by
  obtain ⟨w, e, w1, w2, w3⟩ := lp_ex (body := fun (s : Int32 × rg_U) => g_X10_restsOn_l2 F (nI p) s.1 s.2) (P := fun k s => ∃ m, k + m = 119 ∧ s.1 = nI m ∧ s.2.1 = v.1 ∧ s.2.2.2 = v.2.2 ∧ ∀ j i, s.2.2.1 j i = if j = 33 ∧ 119 * p ≤ i ∧ i < 119 * p + m then v.2.1 34 (i - 119 * p) else v.2.1 j i) (R := fun w => w.1 = v.1 ∧ w.2.2 = v.2.2 ∧ ∀ j i, w.2.1 j i = if j = 33 ∧ 119 * p ≤ i ∧ i < 119 * p + 119 then v.2.1 34 (i - 119 * p) else v.2.1 j i) (by
    rintro k ⟨s1, s2⟩ ⟨m, hm, e1, e2, e3, hv⟩
    dsimp only at e1 e2 e3 hv
    subst e1
    unfold g_X10_restsOn_l2
    dsimp only
    by_cases q : m = 119
    · right
      subst q
      exact ⟨s2, if_pos (by decide), e2, e3, hv⟩
    · left
      rw [if_neg (show ¬ (119 : Int32) ≤ nI m from nI_ge (a := m) (b := 119) (by omega) (by decide)), show (119 : Int32) * nI p + nI m = nI (119 * p + m) by rw [show (119 : Int32) * nI p = nI (119 * p) from pk_mul 119 _, nI_add], ck_t (inb_nI (by omega) (by decide)), ck_t (inb_nI (by omega) (by decide)), lt1_i, sA_nI (by omega), rA_nI (by omega), nI_1]
      refine ⟨_, k - 1, rfl, by omega, m + 1, by omega, rfl, e2, e3, fun j i => ?_⟩
      rw [R_at, hv j i, hv 34 m, if_neg (show ¬ (34 = 33 ∧ 119 * p ≤ m ∧ m < 119 * p + m) by omega)]
      by_cases z : j = 33 ∧ i = 119 * p + m
      · rw [if_pos z, if_pos (show j = 33 ∧ 119 * p ≤ i ∧ i < 119 * p + (m + 1) by omega), z.2, Nat.add_sub_cancel_left]
      · rw [if_neg z]
        by_cases y : j = 33 ∧ 119 * p ≤ i ∧ i < 119 * p + m
        · rw [if_pos y, if_pos (show j = 33 ∧ 119 * p ≤ i ∧ i < 119 * p + (m + 1) by omega)]
        · rw [if_neg y, if_neg (show ¬ (j = 33 ∧ 119 * p ≤ i ∧ i < 119 * p + (m + 1)) by omega)]) F 119 ((0 : Int32), v) (by omega) ⟨0, rfl, rfl, rfl, rfl, fun j i => by rw [if_neg (by omega)]⟩
  unfold g_X10_restsOn
  rw [e, ob_i, rw_ext (u := v) (v := w) (o := 33) (m := stR (v.2.1 33) (v.2.1 34) p) w1 w2 (fun j i => ?_)]
  rw [w3]
  unfold stR
  by_cases q : j = 33
  · subst q
    by_cases z : 119 * p ≤ i ∧ i < 119 * p + 119
    · rw [if_pos ⟨rfl, z⟩, if_pos rfl, if_pos z]
    · rw [if_neg (fun y => z y.2), if_pos rfl, if_neg z]
  · rw [if_neg (fun y => q y.1), if_neg q]
