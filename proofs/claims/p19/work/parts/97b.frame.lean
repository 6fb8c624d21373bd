/-! frames: what a change of other places leaves -/
def scal (j : Nat) : Prop := j = 15 ∨ j = 19 ∨ (21 ≤ j ∧ j ≤ 27)
/-- all that is of run r is the same -/
def agR (u u' : rg_U) (r : Nat) : Prop := (∀ j, 6 ≤ j → j ≤ 9 → ∀ k, k < 64 → u'.2.1 j (64 * r + k) = u.2.1 j (64 * r + k)) ∧ (∀ j, 10 ≤ j → j ≤ 14 → ∀ k, k < 800 → u'.2.1 j (800 * r + k) = u.2.1 j (800 * r + k)) ∧ (∀ j, scal j → u'.2.1 j r = u.2.1 j r) ∧ (∀ j, 16 ≤ j → j ≤ 18 → ∀ k, k < 100 → u'.2.1 j (100 * r + k) = u.2.1 j (100 * r + k)) ∧ ∀ k, k < 3001 → u'.2.1 20 (3001 * r + k) = u.2.1 20 (3001 * r + k)
theorem agR_t {u v w : rg_U} {r : Nat} (h : agR u v r) (h2 : agR v w r) : agR u w r := ⟨fun j a b k c => (h2.1 j a b k c).trans (h.1 j a b k c), fun j a b k c => (h2.2.1 j a b k c).trans (h.2.1 j a b k c), fun j a => (h2.2.2.1 j a).trans (h.2.2.1 j a), fun j a b k c => (h2.2.2.2.1 j a b k c).trans (h.2.2.2.1 j a b k c), fun k c => (h2.2.2.2.2 k c).trans (h.2.2.2.2 k c)⟩
theorem agR_A {u u' : rg_U} {r : Nat} (h : ∀ j, 6 ≤ j → j ≤ 27 → u'.2.1 j = u.2.1 j) : agR u u' r := by
  refine ⟨fun j a b k c => by rw [h j (by omega) (by omega)], fun j a b k c => by rw [h j (by omega) (by omega)], fun j a => ?_, fun j a b k c => by rw [h j (by omega) (by omega)], fun k c => by rw [h 20 (by omega) (by omega)]⟩
  have : 6 ≤ j ∧ j ≤ 27 := by unfold scal at a; omega
  rw [h j this.1 this.2]
theorem Pm_g {u u' : rg_U} {r : Nat} (h : agR u u' r) : Pm u' r = Pm u r := by
  unfold Pm
  rw [ct_c (fun k hk => h.1 6 (by decide) (by decide) k hk), ct_c (fun k hk => h.1 7 (by decide) (by decide) k hk), ct_c (fun k hk => h.1 8 (by decide) (by decide) k hk), ct_c (fun k hk => h.1 9 (by decide) (by decide) k hk)]
theorem Lm_g {u u' : rg_U} {r : Nat} (h : agR u u' r) : Lm u' r = Lm u r := by
  unfold Lm
  rw [ct_c (fun k hk => h.2.1 10 (by decide) (by decide) k hk), ct_c (fun k hk => h.2.1 11 (by decide) (by decide) k hk), ct_c (fun k hk => h.2.1 12 (by decide) (by decide) k hk), ct_c (fun k hk => h.2.1 13 (by decide) (by decide) k hk), ct_c (fun k hk => h.2.1 14 (by decide) (by decide) k hk)]
theorem Hm_g {u u' : rg_U} {r : Nat} (h : agR u u' r) : Hm u' r = Hm u r := by
  unfold Hm
  rw [ct_c (fun k hk => h.2.2.2.2 k hk)]
theorem sc_g {u u' : rg_U} {r : Nat} (h : agR u u' r) : nr u' r = nr u r ∧ Tr u' r = Tr u r ∧ Ur u' r = Ur u r ∧ Dr u' r = Dr u r ∧ Cr u' r = Cr u r := by
  unfold nr Tr Ur Dr Cr
  rw [h.2.2.1 15 (Or.inl rfl), h.2.2.1 21 (Or.inr (Or.inr (by decide))), h.2.2.1 23 (Or.inr (Or.inr (by decide))), h.2.2.1 24 (Or.inr (Or.inr (by decide))), h.2.2.1 19 (Or.inr (Or.inl rfl))]
  exact ⟨rfl, rfl, rfl, rfl, rfl⟩
theorem rpm_g {u u' : rg_U} {r t : Nat} (h : agR u u' r) : rpm u' r t = rpm u r t := by
  unfold rpm
  rw [Pm_g h, Lm_g h, (sc_g h).1]
theorem runOK_g {u u' : rg_U} {r : Nat} (h : agR u u' r) (hr : runOK u r) : runOK u' r := by
  obtain ⟨e1, e2, e3, e4, e5⟩ := sc_g h
  obtain ⟨a1, a2, a3, a4, a5, a6, a7, a8, a9⟩ := hr
  unfold runOK
  rw [e1, e2, e3, e4, e5, Pm_g h, Lm_g h, Hm_g h, h.2.2.1 15 (Or.inl rfl), h.2.2.1 21 (Or.inr (Or.inr (by decide))), h.2.2.1 23 (Or.inr (Or.inr (by decide))), h.2.2.1 24 (Or.inr (Or.inr (by decide))), h.2.2.1 19 (Or.inr (Or.inl rfl))]
  refine ⟨a1, a2, a3, a4, a5, a6, a7, a8, a9.1, ?_⟩
  obtain ⟨ct, c1, c2⟩ := a9.2
  refine ⟨ct, fun i hi => ?_, c2⟩
  have hi100 := a9.1
  dsimp only
  rw [h.2.2.2.1 16 (by decide) (by decide) i (by omega)]
  exact c1 i hi
/-- of the run that is now only: the others, the program, what is watched and asked stay -/
theorem core_now {u u' : rg_U} {K W W' : Nat} (hc : coreM u K W) (hfr : ∀ r, r < 4 → agR u u' r) (hf : u'.1 4 = u.1 4 ∧ u'.1 5 = u.1 5 ∧ u'.1 29 = u.1 29 ∧ u'.1 30 = u.1 30) (hp : ∀ j, 1 ≤ j → j ≤ 4 → u'.2.1 j = u.2.1 j) (h30 : u'.2.1 30 = u.2.1 30) (h5 : ∀ r, r < 4 → u'.2.1 5 r = u.2.1 5 r) (h54 : u'.2.1 5 4 = 1) (hrun : runOK u' 4) (hlive : u'.2.1 28 = (rpm u' 4 (Tr u' 4)).1) (hw : u'.1 33 = nI W' ∧ W' + cI (Lm u' 4) (nr u' 4) ≤ 900) : coreM u' K W' := by
  obtain ⟨⟨c1, c2, c3⟩, ⟨c4, c5, c6⟩, c7, c8, c9, c10, ⟨c11, c12, c13⟩, c14⟩ := hc
  refine ⟨⟨by rw [hf.2.2.1]; exact c1, c2, by rw [hf.2.2.2]; exact c3⟩, ⟨Or.inr h54, fun _ => h54, fun r hr => by rw [h5 r (by omega)]; exact c6 r hr⟩, by rw [hp 1 (by decide) (by decide), hp 2 (by decide) (by decide), hp 3 (by decide) (by decide), hp 4 (by decide) (by decide)]; exact c7, by rw [hf.1, hf.2.1]; exact c8, fun r hr => ?_, fun _ => hlive, ⟨hw.1, by omega, fun _ => hw.2⟩, by rw [h30]; exact c14⟩
  rcases hr with hr | ⟨rfl, -⟩
  · exact runOK_g (hfr r (by omega)) (c9 r (Or.inl hr))
  · exact hrun
theorem simM_none {u : rg_U} {K : Nat} (hK : K ≤ 4) (h41 : u.1 41 = -1) (h28 : ∀ i, 134 ≤ i → u.2.1 28 i = 0) (h31 : ∀ i, 134 ≤ i → u.2.1 31 i = 0) (h37 : ∀ i, 134 ≤ i → u.2.1 37 i = 0) : simM u K := ⟨Or.inl h41, fun r hr q => absurd (q.symm.trans h41) (nI_m1 (by have := act5 hK hr; omega)), h28, h31, h37⟩
theorem rpm_z {u : rg_U} {r t : Nat} (h : runOK u r) (ht : t ≤ Tr u r) : ∀ i, 134 ≤ i → (rpm u r t).1 i = 0 := by
  obtain ⟨-, d, -, -, -, hz⟩ := (rp_ok h.2.2.2.2.2.2.1.1 t ht).1
  exact hz
/-! code, spacing, seed, watch, use, give -/
def okM (u : rg_U) (K W : Nat) : Prop := coreM u K W ∧ simM u K
theorem isIn63 {x : Int32} (h : ¬ g_X10_isIn x 0 63 = 0) : ∃ k, k < 64 ∧ x = nI k := by
  obtain ⟨k, e, h1, h2⟩ := in_nat h (by decide)
  have e1 : (63 : Int32).toInt = 63 := rfl
  exact ⟨k, by omega, e⟩
theorem isPl {x : Int32} (h : ¬ g_X10_isPlace x = 0) : ∃ k, k < 40 ∧ x = nI k := by
  obtain ⟨k, e, h1, h2⟩ := in_nat (v := x) h (by decide)
  have e1 : (39 : Int32).toInt = 39 := rfl
  exact ⟨k, by omega, e⟩
def wr4 (u : rg_U) (j k : Nat) (x a b c : Int32) : rg_U := rg_R (rg_R (rg_R (rg_R u j k x) (j + 1) k a) (j + 2) k b) (j + 3) k c
theorem wr4_n {u : rg_U} {j k i : Nat} {x a b c : Int32} (h : i < j ∨ j + 3 < i) : (wr4 u j k x a b c).2.1 i = u.2.1 i := by
  funext q
  unfold wr4
  rw [R_at, R_at, R_at, R_at, if_neg (by omega), if_neg (by omega), if_neg (by omega), if_neg (by omega)]
theorem wr4_1 {u : rg_U} {j k : Nat} {x a b c : Int32} : (wr4 u j k x a b c).1 = u.1 := rfl
theorem m_code {F K W : Nat} {a1 a2 a3 a4 a5 : Int32} {u : rg_U} (h : okM u K W) : (g_X10_isIn a1 0 63 = 0 ∨ g_X10_isFine a2 a3 a4 a5 = 0) ∧ g_X10_code F a1 a2 a3 a4 a5 u = some (0, u) ∨ ∃ k, k < 64 ∧ a1 = nI k ∧ ¬ g_X10_isFine a2 a3 a4 a5 = 0 ∧ g_X10_code F a1 a2 a3 a4 a5 u = some (1, wr4 u 1 k a2 a3 a4 a5) ∧ okM (wr4 u 1 k a2 a3 a4 a5) K W := by
  unfold g_X10_code
  by_cases q : g_X10_isIn a1 0 63 = 0
  · exact Or.inl ⟨Or.inl q, by rw [if_pos q]⟩
  rw [if_neg q]
  by_cases q2 : g_X10_isFine a2 a3 a4 a5 = 0
  · exact Or.inl ⟨Or.inr q2, by rw [if_pos q2]⟩
  rw [if_neg q2]
  obtain ⟨k, hk, rfl⟩ := isIn63 q
  simp only [lt1_i, ck_t (inb_nI hk (by decide)), sA_nI (show k < 2 ^ 31 by omega)]
  refine Or.inr ⟨k, hk, rfl, q2, rfl, ?_, ?_⟩
  · obtain ⟨⟨⟨c1, c2, c3⟩, ⟨c4, c5, c6⟩, c7, c8, c9, c10, c11, c14⟩, -⟩ := h
    have hA : ∀ j, 5 ≤ j → (wr4 u 1 k a2 a3 a4 a5).2.1 j = u.2.1 j := fun j hj => wr4_n (by omega)
    have hg : ∀ r, agR u (wr4 u 1 k a2 a3 a4 a5) r := fun r => agR_A (fun j h1 h2 => hA j (by omega))
    have a5' := hA 5 (by decide)
    refine ⟨⟨c1, c2, c3⟩, ⟨by rw [a5']; exact c4, by rw [a5']; exact c5, by rw [a5']; exact c6⟩, fun i hi => ?_, c8, fun r hr => runOK_g (hg r) (c9 r (by unfold act at hr ⊢; rw [← a5']; exact hr)), ?_, ?_, by rw [hA 30 (by decide)]; exact c14⟩
    · have e1 : ∀ z, 1 ≤ z → z ≤ 4 → (wr4 u 1 k a2 a3 a4 a5).2.1 z i = if i = k then (if z = 1 then a2 else if z = 2 then a3 else if z = 3 then a4 else a5) else u.2.1 z i := fun z h1 h2 => by
        unfold wr4
        rw [R_at, R_at, R_at, R_at]
        by_cases qi : i = k
        · subst qi
          rcases (show z = 1 ∨ z = 2 ∨ z = 3 ∨ z = 4 by omega) with rfl | rfl | rfl | rfl <;> simp
        · rw [if_neg (fun w => qi w.2), if_neg (fun w => qi w.2), if_neg (fun w => qi w.2), if_neg (fun w => qi w.2), if_neg qi]
      dsimp only
      rw [e1 1 (by decide) (by decide), e1 2 (by decide) (by decide), e1 3 (by decide) (by decide), e1 4 (by decide) (by decide)]
      by_cases qi : i = k
      · simp only [if_pos qi]
        exact q2
      · simp only [if_neg qi]
        exact c7 i hi
    · rw [a5', hA 28 (by decide), rpm_g (hg 4), (sc_g (hg 4)).2.1]; exact c10
    · rw [a5', Lm_g (hg 4), (sc_g (hg 4)).1]; exact c11
  · exact simM_c (u := u) (fun j h1 h2 _ => wr4_n (by omega)) (wr4_n (by omega)) (wr4_n (by omega)) rfl rfl h.2
