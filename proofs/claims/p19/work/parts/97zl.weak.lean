/-! the class: every call returns (what a run holds) -/
def wkL : List (Nat × Int) := [(6, 4), (601, 899), (602, 900), (11609, 3000), (12205, 800), (12811, 3800), (14003, 100), (14401, 64), (15109, 3000), (15705, 800), (16311, 3800), (17503, 100), (17901, 64), (18509, 3000), (19105, 800), (19711, 3800), (20903, 100), (21301, 64), (21909, 3000), (22505, 800), (23111, 3800), (24303, 100), (24701, 64), (25309, 3000), (25905, 800), (26511, 3800), (27703, 100), (28101, 64)]
/-- the counts are within bounds -/
def wkB (u : rg_U) : Prop := ∀ p, p ∈ wkL → 0 ≤ (u.1 p.1).toInt ∧ (u.1 p.1).toInt ≤ p.2
/-- what is no run's is as it was -/
def wkF (u0 u : rg_U) : Prop := (∀ i, i < 13 → u.1 i = u0.1 i) ∧ (∀ j, j < 6 → u.2.1 j = u0.2.1 j) ∧ u.2.2 = u0.2.2
def wkX (u0 u : rg_U) : Prop := wkB u ∧ wkF u0 u
def wkG (u : rg_U) : Prop := (u.2.2.1 7 = none ∨ u.2.2.1 7 = some 116) ∧ (∀ k, k < 4 → u.2.2.2 150 k = some (151 + 34 * k)) ∧ ∀ k, k < 101 → u.2.2.2 9 k = some (10 + k)
abbrev wkT (i : Nat) (b : Int) : Prop := ∀ p, p ∈ wkL → p.1 = i → p.2 = b
abbrev wkN (i : Nat) : Prop := ∀ p, p ∈ wkL → ¬ p.1 = i
section WKX
variable {F o j s : Nat} {x y z v i : Int32} {u0 u w : rg_U}
theorem wx_r (h : wkB u) : wkX u u := ⟨h, fun _ _ => rfl, fun _ _ => rfl, rfl⟩
theorem wx_t (h : wkX u0 u) (h2 : wkX u w) : wkX u0 w := ⟨h2.1, fun i hi => (h2.2.1 i hi).trans (h.2.1 i hi), fun j hj => (h2.2.2.1 j hj).trans (h.2.2.1 j hj), h2.2.2.2.trans h.2.2.2⟩
theorem wx_G (hG : wkG u0) (h : wkX u0 u) : wkG u := by
  unfold wkG
  rw [h.2.2.2]
  exact hG
theorem wx_U {k : Nat} (h : wkX u0 u) (hk : 13 ≤ k) (hb : ∀ p, p ∈ wkL → p.1 = k → 0 ≤ v.toInt ∧ v.toInt ≤ p.2) : wkX u0 (rg_F u k v) := by
  have e : ∀ i, (rg_F u k v).1 i = if i = k then v else u.1 i := fun i => rfl
  refine ⟨fun p hp => ?_, fun i hi => ?_, h.2.2.1, h.2.2.2⟩
  · rw [e]
    by_cases q : p.1 = k
    · rw [if_pos q]; exact hb p hp q
    · rw [if_neg q]; exact h.1 p hp
  · rw [e, if_neg (by omega)]; exact h.2.1 i hi
theorem wx_b {b : Int} (h : wkX u0 u) (hk : 13 ≤ 100 * j + s) (hb : wkT (100 * j + s) b) (h0 : 0 ≤ v.toInt) (h1 : v.toInt ≤ b) : wkX u0 (sF u j s v) := wx_U h hk (fun p hp e => ⟨h0, by rw [hb p hp e]; exact h1⟩)
theorem wx_n (h : wkX u0 u) (hk : 13 ≤ 100 * j + s) (hb : wkN (100 * j + s)) : wkX u0 (sF u j s v) := wx_U h hk (fun p hp e => absurd e (hb p hp))
theorem wx_R {k : Nat} (h : wkX u0 u) (hj : 6 ≤ j) : wkX u0 (rg_R u j k v) := ⟨h.1, h.2.1, fun j' hj' => by
  rw [← h.2.2.1 j' hj']
  funext i'
  rw [R_at, if_neg (by omega)], h.2.2.2⟩
theorem wx_A (h : wkX u0 u) (hj : 6 ≤ j) : wkX u0 (sA u j i v) := wx_R h hj
theorem wx_Z (h : wkX u0 u) (hj : 6 ≤ j) : wkX u0 (sZ u j i v) := wx_R h hj
theorem wx_up {f : Nat → Int32} (h : wkX u0 u) (hj : 6 ≤ j) : wkX u0 (u.1, va_up u.2.1 j f, u.2.2) := ⟨h.1, h.2.1, fun j' hj' => by
  rw [← h.2.2.1 j' hj']
  show va_up u.2.1 j f j' = _
  exact pm_up_n (by omega), h.2.2.2⟩
theorem rn_ge (h : isRn o) : 116 ≤ o := by rcases h with rfl | rfl | rfl | rfl | rfl <;> decide
theorem tb_9 (h : isRn o) : wkT (100 * o + 9) 3000 := by rcases h with rfl | rfl | rfl | rfl | rfl <;> decide
theorem tb_L (h : isRn o) : wkT (100 * (o + 6) + 5) 800 := by rcases h with rfl | rfl | rfl | rfl | rfl <;> decide
theorem tb_P (h : isRn o) : wkT (100 * (o + 12) + 11) 3800 := by rcases h with rfl | rfl | rfl | rfl | rfl <;> decide
theorem tb_C (h : isRn o) : wkT (100 * (o + 24) + 3) 100 := by rcases h with rfl | rfl | rfl | rfl | rfl <;> decide
theorem tb_H (h : isRn o) : wkT (100 * (o + 28) + 1) 64 := by rcases h with rfl | rfl | rfl | rfl | rfl <;> decide
theorem tn_10 (h : isRn o) : wkN (100 * o + 10) := by rcases h with rfl | rfl | rfl | rfl | rfl <;> decide
theorem tn_11 (h : isRn o) : wkN (100 * o + 11) := by rcases h with rfl | rfl | rfl | rfl | rfl <;> decide
theorem tn_12 (h : isRn o) : wkN (100 * o + 12) := by rcases h with rfl | rfl | rfl | rfl | rfl <;> decide
theorem tn_13 (h : isRn o) : wkN (100 * o + 13) := by rcases h with rfl | rfl | rfl | rfl | rfl <;> decide
theorem tn_14 (h : isRn o) : wkN (100 * o + 14) := by rcases h with rfl | rfl | rfl | rfl | rfl <;> decide
theorem tn_H2 (h : isRn o) : wkN (100 * (o + 28) + 2) := by rcases h with rfl | rfl | rfl | rfl | rfl <;> decide
theorem tn_H3 (h : isRn o) : wkN (100 * (o + 28) + 3) := by rcases h with rfl | rfl | rfl | rfl | rfl <;> decide
theorem tn_H4 (h : isRn o) : wkN (100 * (o + 28) + 4) := by rcases h with rfl | rfl | rfl | rfl | rfl <;> decide
theorem b_9 (h : wkX u0 u) (ho : isRn o) : 0 ≤ (rF u o 9).toInt ∧ (rF u o 9).toInt ≤ 3000 := by
  rcases ho with rfl | rfl | rfl | rfl | rfl
  · exact h.1 (11609, 3000) (by decide)
  · exact h.1 (15109, 3000) (by decide)
  · exact h.1 (18509, 3000) (by decide)
  · exact h.1 (21909, 3000) (by decide)
  · exact h.1 (25309, 3000) (by decide)
theorem b_L (h : wkX u0 u) (ho : isRn o) : 0 ≤ (rF u (o + 6) 5).toInt ∧ (rF u (o + 6) 5).toInt ≤ 800 := by
  rcases ho with rfl | rfl | rfl | rfl | rfl
  · exact h.1 (12205, 800) (by decide)
  · exact h.1 (15705, 800) (by decide)
  · exact h.1 (19105, 800) (by decide)
  · exact h.1 (22505, 800) (by decide)
  · exact h.1 (25905, 800) (by decide)
theorem b_P (h : wkX u0 u) (ho : isRn o) : 0 ≤ (rF u (o + 12) 11).toInt ∧ (rF u (o + 12) 11).toInt ≤ 3800 := by
  rcases ho with rfl | rfl | rfl | rfl | rfl
  · exact h.1 (12811, 3800) (by decide)
  · exact h.1 (16311, 3800) (by decide)
  · exact h.1 (19711, 3800) (by decide)
  · exact h.1 (23111, 3800) (by decide)
  · exact h.1 (26511, 3800) (by decide)
theorem b_C (h : wkX u0 u) (ho : isRn o) : 0 ≤ (rF u (o + 24) 3).toInt ∧ (rF u (o + 24) 3).toInt ≤ 100 := by
  rcases ho with rfl | rfl | rfl | rfl | rfl
  · exact h.1 (14003, 100) (by decide)
  · exact h.1 (17503, 100) (by decide)
  · exact h.1 (20903, 100) (by decide)
  · exact h.1 (24303, 100) (by decide)
  · exact h.1 (27703, 100) (by decide)
theorem b_H (h : wkX u0 u) (ho : isRn o) : 0 ≤ (rF u (o + 28) 1).toInt ∧ (rF u (o + 28) 1).toInt ≤ 64 := by
  rcases ho with rfl | rfl | rfl | rfl | rfl
  · exact h.1 (14401, 64) (by decide)
  · exact h.1 (17901, 64) (by decide)
  · exact h.1 (21301, 64) (by decide)
  · exact h.1 (24701, 64) (by decide)
  · exact h.1 (28101, 64) (by decide)
theorem b_a (h : wkX u0 u) : 0 ≤ (rF u 6 1).toInt ∧ (rF u 6 1).toInt ≤ 899 := h.1 (601, 899) (by decide)
theorem b_w (h : wkX u0 u) : 0 ≤ (rF u 6 2).toInt ∧ (rF u 6 2).toInt ≤ 900 := h.1 (602, 900) (by decide)
/-! loops over what a run holds -/
theorem z_latestBy (hb : 0 ≤ (rF u o 1).toInt ∧ (rF u o 1).toInt ≤ 64) (hF : 10000 < F) : Tt (g_X2_latestBy F o x u) (fun _ => True) := by
  unfold g_X2_latestBy
  refine tt_b (tt_lp (I := fun s => 0 ≤ s.2.toInt ∧ s.2.toInt ≤ 64) (m := fun s => (64 - s.2.toInt).toNat) (P := fun _ => True) ?_ F _ ?_ ?_) (fun _ _ => trivial)
  · rintro ⟨a, c⟩ ⟨h1, h2⟩
    dsimp only at h1 h2 ⊢
    unfold g_X2_latestBy_l4
    refine tt_if (fun _ => tt_r trivial) (fun h3 => tt_ob z_timeOf2 (fun r _ => tt_if (fun _ => tt_r trivial) (fun _ => tt_ob z_timeOf2 (fun r2 _ => tt_l ?_))))
    have h4 : c.toInt < (rF u o 1).toInt := (by (try simp only [inb, Int32.lt_iff_toInt_lt, Int32.le_iff_toInt_le, t_m1, t_0, t_1, t_2, t_4, t_8, t_10, t_18, t_23, t_32, t_40, t_64, t_100, t_500, t_800, t_900, t_3000, t_3800] at *) <;> omega)
    have := t_a1 (x := c) (by omega)
    dsimp only
    omega
  · dsimp only
    rw [t_0]
    omega
  · dsimp only
    rw [t_0]
    omega
theorem z_stepsToFind (hb : 0 ≤ (rF u o 1).toInt ∧ (rF u o 1).toInt ≤ 64) (hF : 10000 < F) : Tt (g_X2_stepsToFind F o x y u) (fun _ => True) := by
  unfold g_X2_stepsToFind
  refine tt_b (tt_lp (I := fun s => -1 ≤ s.2.2.toInt ∧ s.2.2.toInt ≤ 64) (m := fun s => (s.2.2.toInt + 1).toNat) (P := fun _ => True) ?_ F _ ?_ ?_) (fun _ _ => trivial)
  · rintro ⟨a, c, e⟩ ⟨h1, h2⟩
    dsimp only at h1 h2 ⊢
    unfold g_X2_stepsToFind_l13
    refine tt_if (fun _ => tt_r trivial) (fun h3 => tt_if (fun _ => tt_r trivial) (fun _ => ?_))
    have h4 : 0 ≤ e.toInt := (by (try simp only [inb, Int32.lt_iff_toInt_lt, Int32.le_iff_toInt_le, t_m1, t_0, t_1, t_2, t_4, t_8, t_10, t_18, t_23, t_32, t_40, t_64, t_100, t_500, t_800, t_900, t_3000, t_3800] at *) <;> omega)
    have := t_d1 (x := e) (by omega)
    have fin : ∀ p q, Tt (g_X2_stepsToFind_j57 F o x p q e u) (PS (fun s' : Int32 × Int32 × Int32 => (-1 ≤ s'.2.2.toInt ∧ s'.2.2.toInt ≤ 64) ∧ (s'.2.2.toInt + 1).toNat < (e.toInt + 1).toNat) (fun _ : Int32 => True)) := fun p q => tt_l (by dsimp only; omega)
    exact tt_ob z_timeOf2 (fun r _ => tt_if (fun _ => fin _ _) (fun _ => tt_ob z_timeOf2 (fun _ _ => tt_ob z_timeOf2 (fun _ _ => fin _ _))))
  · dsimp only
    have := t_s1 (x := rF u o 1) (by omega)
    omega
  · dsimp only
    have := t_s1 (x := rF u o 1) (by omega)
    omega
theorem z_putBy (hb : 0 ≤ (rF u o 11).toInt ∧ (rF u o 11).toInt ≤ 3800) (hF : 10000 < F) : Tt (g_X6_putBy F o x y u) (fun _ => True) := by
  unfold g_X6_putBy
  refine tt_ob z_latestOf (fun r _ => tt_b (tt_lp (I := fun s => s.2.toInt ≤ 3800) (m := fun s => s.2.toInt.toNat) (P := fun _ => True) ?_ F _ ?_ ?_) (fun _ _ => trivial))
  · rintro ⟨a, c⟩ h1
    dsimp only at h1 ⊢
    unfold g_X6_putBy_l12
    refine tt_if (fun _ => tt_r trivial) (fun h3 => tt_ob z_timeOf6 (fun r _ => tt_if (fun _ => tt_r trivial) (fun _ => tt_ob z_aheadOf (fun r2 _ => tt_l ?_))))
    have h4 : 0 < c.toInt := (by (try simp only [inb, Int32.lt_iff_toInt_lt, Int32.le_iff_toInt_le, t_m1, t_0, t_1, t_2, t_4, t_8, t_10, t_18, t_23, t_32, t_40, t_64, t_100, t_500, t_800, t_900, t_3000, t_3800] at *) <;> omega)
    have := t_d1 (x := c) (by omega)
    dsimp only
    omega
  · dsimp only
    omega
  · dsimp only
    omega
theorem z_changedSince (hb : 0 ≤ (rF u o 11).toInt ∧ (rF u o 11).toInt ≤ 3800) (hF : 10000 < F) : Tt (g_X6_changedSince F o x u) (fun _ => True) := by
  unfold g_X6_changedSince
  refine tt_ob (tt_lp (I := fun s => s.2.toInt ≤ 3800) (m := fun s => s.2.toInt.toNat) (P := fun _ => True) ?_ F _ ?_ ?_) (fun r _ => tt_os (fun a _ => ?_) (fun a _ => ?_))
  · rintro ⟨a, c⟩ h1
    dsimp only at h1 ⊢
    unfold g_X6_changedSince_l7
    refine tt_if (fun _ => tt_r trivial) (fun h3 => tt_ob z_aheadOf (fun r _ => tt_ob z_has6 (fun r2 _ => tt_if (fun _ => tt_r trivial) (fun _ => tt_ob z_aheadOf (fun _ _ => tt_ob z_changesOf (fun _ _ => tt_ob z_changesOf (fun _ _ => tt_if (fun _ => tt_ob z_aheadOf (fun _ _ => tt_l ?_)) (fun _ => tt_r trivial))))))))
    have h4 : 0 < c.toInt := (by (try simp only [inb, Int32.lt_iff_toInt_lt, Int32.le_iff_toInt_le, t_m1, t_0, t_1, t_2, t_4, t_8, t_10, t_18, t_23, t_32, t_40, t_64, t_100, t_500, t_800, t_900, t_3000, t_3800] at *) <;> omega)
    have := t_d1 (x := c) (by omega)
    dsimp only
    omega
  · dsimp only
    omega
  · dsimp only
    omega
  · unfold g_X6_changedSince_j55
    exact tt_b z_timeOf6 (fun _ _ => trivial)
  · unfold g_X6_changedSince_j55
    exact tt_b z_timeOf6 (fun _ _ => trivial)
theorem z_hadBy (hb : 0 ≤ (rF u o 11).toInt ∧ (rF u o 11).toInt ≤ 3800) (hF : 10000 < F) : Tt (g_X6_hadBy F o x y z v u) (fun _ => True) := by
  unfold g_X6_hadBy
  refine tt_ob z_latestOf (fun r _ => tt_ob (tt_lp (I := fun s => -1 ≤ s.2.2.toInt ∧ s.2.2.toInt ≤ 3800) (m := fun s => (s.2.2.toInt + 1).toNat) (P := fun _ => True) ?_ F _ ?_ ?_) (fun r _ => tt_os (fun _ _ => tt_s trivial) (fun _ _ => tt_s trivial)))
  · rintro ⟨a, c, e⟩ ⟨h1, h2⟩
    dsimp only at h1 h2 ⊢
    unfold g_X6_hadBy_l16
    refine tt_if (fun _ => tt_r trivial) (fun h3 => tt_if (fun _ => tt_r trivial) (fun _ => ?_))
    have h4 : 0 ≤ e.toInt := (by (try simp only [inb, Int32.lt_iff_toInt_lt, Int32.le_iff_toInt_le, t_m1, t_0, t_1, t_2, t_4, t_8, t_10, t_18, t_23, t_32, t_40, t_64, t_100, t_500, t_800, t_900, t_3000, t_3800] at *) <;> omega)
    have := t_d1 (x := e) (by omega)
    have fin : ∀ p q, Tt (g_X6_hadBy_j62 F o z v p q e u) (PS (fun s' : Int32 × Int32 × Int32 => (-1 ≤ s'.2.2.toInt ∧ s'.2.2.toInt ≤ 3800) ∧ (s'.2.2.toInt + 1).toNat < (e.toInt + 1).toNat) (fun _ : Int32 ⊕ Unit => True)) := fun p q => by
      unfold g_X6_hadBy_j62
      exact tt_ob z_aheadOf (fun _ _ => tt_l (by dsimp only; omega))
    exact tt_ob z_timeOf6 (fun r _ => tt_if (fun _ => fin _ _) (fun _ => tt_ob z_hasValue (fun _ _ => tt_if (fun _ => tt_ob z_timeOf6 (fun _ _ => fin _ _)) (fun _ => tt_r trivial))))
  · dsimp only
    omega
  · dsimp only
    omega
theorem z_changeTimes (hF : 10000 < F) : Tt (g_X6_changeTimes F o x y u) (fun _ => True) := by
  unfold g_X6_changeTimes
  refine tt_ob (tt_lp (I := fun s => 0 ≤ s.2.2.toInt ∧ s.2.2.toInt ≤ 3800) (m := fun s => (3800 - s.2.2.toInt).toNat) (P := fun r => ∀ a, r = Sum.inl a → inb a 3800) ?_ F _ ?_ ?_) (fun r hr => tt_os (fun a ha => tt_ck (hr a ha) (tt_s trivial)) (fun a _ => ?_))
  · rintro ⟨a, c, e⟩ ⟨h1, h2⟩
    dsimp only at h1 h2 ⊢
    unfold g_X6_changeTimes_l8
    refine tt_if (fun _ => tt_r fun a h => by cases h) (fun _ => tt_if (fun _ => tt_r fun a h => by cases h) (fun h3 => ?_))
    have h4 : e.toInt < 3800 := (by (try simp only [inb, Int32.lt_iff_toInt_lt, Int32.le_iff_toInt_le, t_m1, t_0, t_1, t_2, t_4, t_8, t_10, t_18, t_23, t_32, t_40, t_64, t_100, t_500, t_800, t_900, t_3000, t_3800] at *) <;> omega)
    have hi : inb e 3800 := ⟨h1, h4⟩
    have := t_a1 (x := e) (by omega)
    have fin : ∀ p q, Tt (g_X6_changeTimes_j94 F o x y p q e u) (PS (fun s' : Int32 × Int32 × Int32 => (0 ≤ s'.2.2.toInt ∧ s'.2.2.toInt ≤ 3800) ∧ (3800 - s'.2.2.toInt).toNat < (3800 - e.toInt).toNat) (fun r : Int32 ⊕ Int32 => ∀ a, r = Sum.inl a → inb a 3800)) := fun p q => tt_l (by dsimp only; omega)
    exact tt_ck hi (tt_if (fun _ => tt_ck hi (tt_if (fun _ => fin _ _) (fun _ => tt_ck hi (tt_ck hi (tt_ob z_changesOf (fun _ _ => tt_if (fun _ => fin _ _) (fun _ => tt_if (fun _ => tt_r fun a h => by cases h; exact hi) (fun _ => tt_ck hi (fin _ _))))))))) (fun _ => fin _ _))
  · dsimp only
    rw [t_0]
    omega
  · dsimp only
    rw [t_0]
    omega
  · unfold g_X6_changeTimes_j100
    exact tt_if (fun _ => tt_s trivial) (fun _ => tt_s trivial)
theorem z_markedStep {o' N : Nat} (hN : N < 2 ^ 31) (hF : 10000 < F) : Tt (g_X6_markedStep F o x o' N u) (fun _ => True) := by
  unfold g_X6_markedStep
  refine tt_ob (tt_lp (I := fun s => 0 ≤ s.2.toInt ∧ s.2.toInt ≤ 3800) (m := fun s => (3800 - s.2.toInt).toNat) (P := fun r => ∀ a, r = Sum.inl a → inb a 3800) ?_ F _ ?_ ?_) (fun r hr => tt_os (fun a ha => tt_ck (hr a ha) (tt_s trivial)) (fun a _ => ?_))
  · rintro ⟨a, e⟩ ⟨h1, h2⟩
    dsimp only at h1 h2 ⊢
    unfold g_X6_markedStep_l5
    refine tt_if (fun _ => tt_r fun a h => by cases h) (fun _ => tt_if (fun _ => tt_r fun a h => by cases h) (fun h3 => ?_))
    have h4 : e.toInt < 3800 := (by (try simp only [inb, Int32.lt_iff_toInt_lt, Int32.le_iff_toInt_le, t_m1, t_0, t_1, t_2, t_4, t_8, t_10, t_18, t_23, t_32, t_40, t_64, t_100, t_500, t_800, t_900, t_3000, t_3800] at *) <;> omega)
    have hi : inb e 3800 := ⟨h1, h4⟩
    have := t_a1 (x := e) (by omega)
    have fin : ∀ p, Tt (g_X6_markedStep_j58 F o o' N x p e u) (PS (fun s' : Int32 × Int32 => (0 ≤ s'.2.toInt ∧ s'.2.toInt ≤ 3800) ∧ (3800 - s'.2.toInt).toNat < (3800 - e.toInt).toNat) (fun r : Int32 ⊕ Int32 => ∀ a, r = Sum.inl a → inb a 3800)) := fun p => tt_l (by dsimp only; omega)
    exact tt_ob (z_isMarked hN) (fun _ _ => tt_if (fun _ => fin _) (fun _ => tt_ck hi (tt_if (fun _ => fin _) (fun _ => tt_if (fun _ => tt_r fun a h => by cases h; exact hi) (fun _ => fin _)))))
  · dsimp only
    rw [t_0]
    omega
  · dsimp only
    rw [t_0]
    omega
  · unfold g_X6_markedStep_j64
    exact tt_if (fun _ => tt_s trivial) (fun _ => tt_s trivial)
end WKX
