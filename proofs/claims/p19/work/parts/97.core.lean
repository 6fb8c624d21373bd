/-! WHAT HOLDS OF THE REFERENCE -/
def nr (u : rg_U) (r : Nat) : Nat := tn (u.2.1 15 r)
def Tr (u : rg_U) (r : Nat) : Nat := tn (u.2.1 21 r)
def Ur (u : rg_U) (r : Nat) : Nat := tn (u.2.1 23 r)
def Dr (u : rg_U) (r : Nat) : Nat := tn (u.2.1 24 r)
def Cr (u : rg_U) (r : Nat) : Nat := tn (u.2.1 19 r)
/-- the states of run r -/
def rpm (u : rg_U) (r t : Nat) : Row × Nat := rp (Pm u r) (Lm u r) (nr u r) t
def okH (H : Nat → Int32) (U T : Nat) : Prop := H 0 = 1 ∧ ∀ k, k ≤ 3000 → H k = 0 ∨ (H k = 1 ∧ k * U ≤ T)
def okC (A : Nat → Int32) (T C : Nat) : Prop := C ≤ 100 ∧ ∃ ct : Nat → Nat, (∀ i, i < C → A i = nI (ct i) ∧ ct i < T) ∧ ∀ i j, i < j → j < C → ct i < ct j
def runOK (u : rg_U) (r : Nat) : Prop := u.2.1 15 r = nI (nr u r) ∧ u.2.1 21 r = nI (Tr u r) ∧ u.2.1 23 r = nI (Ur u r) ∧ u.2.1 24 r = nI (Dr u r) ∧ u.2.1 19 r = nI (Cr u r) ∧ (0 < Ur u r ∧ Ur u r ≤ 64 ∧ 0 < Dr u r ∧ Dr u r ≤ 8) ∧ okW (Pm u r) (Lm u r) (nr u r) (Tr u r) ∧ okH (Hm u r) (Ur u r) (Tr u r) ∧ okC (fun i => u.2.1 16 (100 * r + i)) (Tr u r) (Cr u r)
def act (u : rg_U) (K r : Nat) : Prop := r < K ∨ (r = 4 ∧ u.2.1 5 4 = 1)
def cI (L : Lg) : Nat → Nat
  | 0 => 0
  | k + 1 => cI L k + (if L.2.1 k = 0 then 1 else 0)
def coreM (u : rg_U) (K W : Nat) : Prop :=
  (u.1 29 = nI K ∧ K ≤ 4 ∧ (u.1 30 = -1 ∨ ∃ r, r < K ∧ u.1 30 = nI r)) ∧
  ((u.2.1 5 4 = 0 ∨ u.2.1 5 4 = 1) ∧ (0 < K → u.2.1 5 4 = 1) ∧ ∀ r, r < K → u.2.1 5 r = 1) ∧
  okP (u.2.1 1, u.2.1 2, u.2.1 3, u.2.1 4) ∧
  (∃ U D, u.1 4 = nI U ∧ u.1 5 = nI D ∧ 0 < U ∧ U ≤ 64 ∧ 0 < D ∧ D ≤ 8) ∧
  (∀ r, act u K r → runOK u r) ∧
  (u.2.1 5 4 = 1 → u.2.1 28 = (rpm u 4 (Tr u 4)).1) ∧
  (u.1 33 = nI W ∧ W ≤ 900 ∧ (u.2.1 5 4 = 1 → W + cI (Lm u 4) (nr u 4) ≤ 900)) ∧
  ∀ p, p < 40 → u.2.1 30 p = 0 ∨ u.2.1 30 p = 1
def simM (u : rg_U) (K : Nat) : Prop := (u.1 41 = -1 ∨ ∃ r, act u K r ∧ u.1 41 = nI r) ∧ (∀ r, act u K r → okSim u r (nr u r) (Tr u r)) ∧ (∀ i, 134 ≤ i → u.2.1 28 i = 0) ∧ (∀ i, 134 ≤ i → u.2.1 31 i = 0) ∧ ∀ i, 134 ≤ i → u.2.1 37 i = 0
/-- nothing but what goes along and lies aside is other -/
def coreEq (u u' : rg_U) : Prop := (∀ j, j ≤ 30 → u'.2.1 j = u.2.1 j) ∧ ∀ k, k ≤ 36 → u'.1 k = u.1 k
theorem coreEq_r {u : rg_U} : coreEq u u := ⟨fun _ _ => rfl, fun _ _ => rfl⟩
theorem coreEq_t {u v w : rg_U} (h : coreEq u v) (h2 : coreEq v w) : coreEq u w := ⟨fun j hj => (h2.1 j hj).trans (h.1 j hj), fun k hk => (h2.2 k hk).trans (h.2 k hk)⟩
theorem coreEq_sX {u : rg_U} {a b c sr sl : Int32} {m : Row} : coreEq u (sX u a b c sr sl m) := ⟨fun j hj => sX_An (by omega), fun k hk => sX_n (by omega)⟩
theorem Pm_c {u u' : rg_U} {r : Nat} (h : ∀ j, j ≤ 30 → u'.2.1 j = u.2.1 j) : Pm u' r = Pm u r := by
  unfold Pm
  rw [h 6 (by decide), h 7 (by decide), h 8 (by decide), h 9 (by decide)]
theorem Lm_c {u u' : rg_U} {r : Nat} (h : ∀ j, j ≤ 30 → u'.2.1 j = u.2.1 j) : Lm u' r = Lm u r := by
  unfold Lm
  rw [h 10 (by decide), h 11 (by decide), h 12 (by decide), h 13 (by decide), h 14 (by decide)]
theorem nr_c {u u' : rg_U} {r : Nat} (h : ∀ j, j ≤ 30 → u'.2.1 j = u.2.1 j) : nr u' r = nr u r := by
  unfold nr
  rw [h 15 (by decide)]
theorem Tr_c {u u' : rg_U} {r : Nat} (h : ∀ j, j ≤ 30 → u'.2.1 j = u.2.1 j) : Tr u' r = Tr u r := by
  unfold Tr
  rw [h 21 (by decide)]
theorem rpm_c {u u' : rg_U} {r t : Nat} (h : ∀ j, j ≤ 30 → u'.2.1 j = u.2.1 j) : rpm u' r t = rpm u r t := by
  unfold rpm
  rw [Pm_c h, Lm_c h, nr_c h]
theorem act_c {u u' : rg_U} {K r : Nat} (h : ∀ j, j ≤ 30 → u'.2.1 j = u.2.1 j) : act u' K r ↔ act u K r := by
  unfold act
  rw [h 5 (by decide)]
theorem runOK_c {u u' : rg_U} {r : Nat} (h : ∀ j, j ≤ 30 → j ≠ 25 → u'.2.1 j = u.2.1 j) (hr : runOK u r) : runOK u' r := by
  have e1 : Pm u' r = Pm u r := by
    unfold Pm
    rw [h 6 (by decide) (by decide), h 7 (by decide) (by decide), h 8 (by decide) (by decide), h 9 (by decide) (by decide)]
  have e2 : Lm u' r = Lm u r := by
    unfold Lm
    rw [h 10 (by decide) (by decide), h 11 (by decide) (by decide), h 12 (by decide) (by decide), h 13 (by decide) (by decide), h 14 (by decide) (by decide)]
  have e3 : Hm u' r = Hm u r := by
    unfold Hm
    rw [h 20 (by decide) (by decide)]
  unfold runOK nr Tr Ur Dr Cr at *
  rw [e1, e2, e3, h 15 (by decide) (by decide), h 16 (by decide) (by decide), h 19 (by decide) (by decide), h 21 (by decide) (by decide), h 23 (by decide) (by decide), h 24 (by decide) (by decide)]
  exact hr
/-- core facts don't ask for what is counted as replayed, nor for X, nor for the latest count -/
theorem core_c {u u' : rg_U} {K W : Nat} (h : ∀ j, j ≤ 30 → j ≠ 25 → u'.2.1 j = u.2.1 j) (hf : ∀ k, k ≤ 33 → u'.1 k = u.1 k) (hc : coreM u K W) : coreM u' K W := by
  obtain ⟨⟨c1, c2, c3⟩, ⟨c4, c5, c6⟩, c7, c8, c9, c10, ⟨c11, c12, c13⟩, c14⟩ := hc
  have e1 : Pm u' 4 = Pm u 4 := by
    unfold Pm
    rw [h 6 (by decide) (by decide), h 7 (by decide) (by decide), h 8 (by decide) (by decide), h 9 (by decide) (by decide)]
  have e2 : Lm u' 4 = Lm u 4 := by
    unfold Lm
    rw [h 10 (by decide) (by decide), h 11 (by decide) (by decide), h 12 (by decide) (by decide), h 13 (by decide) (by decide), h 14 (by decide) (by decide)]
  have a5 := h 5 (by decide) (by decide)
  refine ⟨⟨by rw [hf 29 (by decide)]; exact c1, c2, by rw [hf 30 (by decide)]; exact c3⟩, ⟨by rw [a5]; exact c4, by rw [a5]; exact c5, by rw [a5]; exact c6⟩, by rw [h 1 (by decide) (by decide), h 2 (by decide) (by decide), h 3 (by decide) (by decide), h 4 (by decide) (by decide)]; exact c7, by rw [hf 4 (by decide), hf 5 (by decide)]; exact c8, fun r hr => runOK_c h (c9 r (by unfold act at hr ⊢; rw [← a5]; exact hr)), ?_, ⟨by rw [hf 33 (by decide)]; exact c11, c12, ?_⟩, by rw [h 30 (by decide) (by decide)]; exact c14⟩
  · unfold rpm nr Tr at *
    rw [a5, h 28 (by decide) (by decide), e1, e2, h 15 (by decide) (by decide), h 21 (by decide) (by decide)]
    exact c10
  · unfold nr at *
    rw [a5, e2, h 15 (by decide) (by decide)]
    exact c13
theorem core_eq {u u' : rg_U} {K W : Nat} (h : coreEq u u') (hc : coreM u K W) : coreM u' K W := core_c (fun j hj _ => h.1 j hj) (fun k hk => h.2 k (by omega)) hc
theorem core_cS {u : rg_U} {K W r : Nat} {x : Int32} (hc : coreM u K W) : coreM (cS u r x) K W := core_c (fun j _ h25 => by
  show va_up u.2.1 25 _ j = _
  exact pm_up_n h25) (fun k hk => by
  show upd u.1 35 _ k = _
  exact pk_un (by omega)) hc
theorem act5 {u : rg_U} {K r : Nat} (hK : K ≤ 4) (h : act u K r) : r < 5 := by
  rcases h with h | ⟨h, -⟩ <;> omega
/-- the row of run r at t lies in sim -/
theorem simM_lay {u : rg_U} {K W r t : Nat} {a b c : Int32} (hc : coreM u K W) (hs : simM u K) (hr : act u K r) (ht : t ≤ Tr u r) : simM (sX u a b c (nI r) (nI (rpm u r t).2) (rpm u r t).1) K := by
  have hA : ∀ j, j ≤ 30 → (sX u a b c (nI r) (nI (rpm u r t).2) (rpm u r t).1).2.1 j = u.2.1 j := coreEq_sX.1
  have hK := hc.1.2.1
  have hro := hc.2.2.2.2.1 r hr
  have hrow := rp_ok hro.2.2.2.2.2.2.1.1 t ht
  refine ⟨Or.inr ⟨r, (act_c hA).mpr hr, sX_41⟩, fun r' hr' q => ?_, fun i hi => by rw [hA 28 (by decide)]; exact hs.2.2.1 i hi, fun i hi => ?_, fun i hi => by rw [sX_An (by decide)]; exact hs.2.2.2.2 i hi⟩
  · have hr5 := act5 hK hr
    have hr5' := act5 hK ((act_c hA).mp hr')
    have e : r' = r := nI_inj (by omega) (by omega) (q.symm.trans sX_41)
    subst e
    refine ⟨t, by rw [Tr_c hA]; exact ht, ?_, ?_⟩
    · rw [sX_A, Pm_c hA, Lm_c hA, nr_c hA]; rfl
    · rw [Pm_c hA, Lm_c hA, nr_c hA]; exact sX_42
  · rw [sX_A]
    obtain ⟨-, d, -, -, -, hz⟩ := hrow.1
    exact hz i hi
theorem simM_c {u u' : rg_U} {K : Nat} (hA : ∀ j, 5 ≤ j → j ≤ 30 → j ≠ 25 → u'.2.1 j = u.2.1 j) (h31 : u'.2.1 31 = u.2.1 31) (h37 : u'.2.1 37 = u.2.1 37) (h41 : u'.1 41 = u.1 41) (h42 : u'.1 42 = u.1 42) (hs : simM u K) : simM u' K := by
  have a5 := hA 5 (by decide) (by decide) (by decide)
  have e1 : ∀ r, Pm u' r = Pm u r := fun r => by
    unfold Pm
    rw [hA 6 (by decide) (by decide) (by decide), hA 7 (by decide) (by decide) (by decide), hA 8 (by decide) (by decide) (by decide), hA 9 (by decide) (by decide) (by decide)]
  have e2 : ∀ r, Lm u' r = Lm u r := fun r => by
    unfold Lm
    rw [hA 10 (by decide) (by decide) (by decide), hA 11 (by decide) (by decide) (by decide), hA 12 (by decide) (by decide) (by decide), hA 13 (by decide) (by decide) (by decide), hA 14 (by decide) (by decide) (by decide)]
  have ha : ∀ r, act u' K r ↔ act u K r := fun r => by unfold act; rw [a5]
  refine ⟨?_, fun r hr => ?_, by rw [hA 28 (by decide) (by decide) (by decide)]; exact hs.2.2.1, by rw [h31]; exact hs.2.2.2.1, by rw [h37]; exact hs.2.2.2.2⟩
  · rw [h41]
    rcases hs.1 with q | ⟨r, q1, q2⟩
    · exact Or.inl q
    · exact Or.inr ⟨r, (ha r).mpr q1, q2⟩
  · have := hs.2.1 r ((ha r).mp hr)
    unfold okSim nr Tr at *
    rw [h41, h42, h31, e1, e2, hA 15 (by decide) (by decide) (by decide), hA 21 (by decide) (by decide) (by decide)]
    exact this
theorem simM_cS {u : rg_U} {K r : Nat} {x : Int32} (hs : simM u K) : simM (cS u r x) K := simM_c (u := u) (u' := cS u r x) (fun j _ _ h25 => by
  show va_up u.2.1 25 _ j = _
  exact pm_up_n h25) rfl rfl rfl rfl hs
theorem rpm_cS {u : rg_U} {r r' t : Nat} {x : Int32} : rpm (cS u r' x) r t = rpm u r t := by
  have h : ∀ j, j ≠ 25 → (cS u r' x).2.1 j = u.2.1 j := fun j hj => by
    show va_up u.2.1 25 _ j = _
    exact pm_up_n hj
  unfold rpm Pm Lm nr
  rw [h 6 (by decide), h 7 (by decide), h 8 (by decide), h 9 (by decide), h 10 (by decide), h 11 (by decide), h 12 (by decide), h 13 (by decide), h 14 (by decide), h 15 (by decide)]
/-- what a replay of t costs in run r -/
def costM (u : rg_U) (r t : Nat) : Nat := rcost (Hm u r) (Ur u r) (Tr u r) t
theorem lay_all {F K W r t : Nat} {u : rg_U} (hc : coreM u K W) (hs : simM u K) (hr : act u K r) (ht : t ≤ Tr u r) (hF : 10000 < F) : ∃ a b c, g_X10_lays F (nI r) (nI t) u = some (sX u a b c (nI r) (nI (rpm u r t).2) (rpm u r t).1) := by
  have hro := hc.2.2.2.2.1 r hr
  exact m_lays (act5 hc.1.2.1 hr) hro.1 hro.2.2.2.2.2.2.1.1 hs.2.2.2.1 (hs.2.1 r hr) ht hF
theorem m_replays {F K W r t : Nat} {u : rg_U} (hc : coreM u K W) (hs : simM u K) (hr : act u K r) (ht : t ≤ Tr u r) (hF : 10000 < F) : ∃ u', g_X10_replays F (nI r) (nI t) u = some u' ∧ coreEq (cS u r (nI (costM u r t))) u' ∧ coreM u' K W ∧ simM u' K ∧ u'.2.1 31 = (rpm u r t).1 := by
  have hr5 := act5 hc.1.2.1 hr
  have hro := hc.2.2.2.2.1 r hr
  have hT3 := hro.2.2.2.2.2.2.1.1.2.2.2.1
  have fin : ∀ v, v = cS u r (nI (costM u r t)) → ∃ u', g_X10_replays_j23 F (nI r) (nI t) v = some u' ∧ coreEq (cS u r (nI (costM u r t))) u' ∧ coreM u' K W ∧ simM u' K ∧ u'.2.1 31 = (rpm u r t).1 := by
    intro v hv
    have hcv : coreM v K W := by rw [hv]; exact core_cS hc
    have hsv : simM v K := by rw [hv]; exact simM_cS hs
    have hrv : act v K r := by rw [hv]; exact hr
    have eT : Tr v r = Tr u r := by rw [hv]; rfl
    obtain ⟨a, b, c, e⟩ := lay_all hcv hsv hrv (by rw [eT]; exact ht) hF
    unfold g_X10_replays_j23
    rw [e, ob_i]
    refine ⟨_, rfl, by rw [← hv]; exact coreEq_sX, core_eq coreEq_sX hcv, simM_lay hcv hsv hrv (by rw [eT]; exact ht), ?_⟩
    rw [sX_A, hv, rpm_cS]
  unfold g_X10_replays
  rw [ck_t (inb_nI hr5 (by decide)), rA_nI (by omega), hro.2.1]
  by_cases q : t = Tr u r
  · rw [if_pos (by rw [q])]
    refine fin u ?_
    have : costM u r t = 0 := by unfold costM rcost; rw [if_pos q]
    rw [this]
    exact cS_0.symm
  · rw [if_neg (fun z => q (nI_inj (by omega) (by omega) z))]
    have h0 : ¬ Hm u r 0 = 0 := by rw [hro.2.2.2.2.2.2.2.1.1]; decide
    have hle : hk (Hm u r) (t / Ur u r) * Ur u r ≤ t := Nat.le_trans (Nat.mul_le_mul_right _ (hk_le _ _)) (Nat.div_mul_le_self t (Ur u r))
    rw [m_heldBy hr5 h0 hro.2.2.1 hro.2.2.2.2.2.1.1 hro.2.2.2.2.2.1.2.1 (by omega) hF, ob_i, nI_sub hle, m_counts hr5, ob_i]
    refine fin _ ?_
    unfold costM rcost
    rw [if_neg q]
