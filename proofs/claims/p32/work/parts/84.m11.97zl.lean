section W_52
-- 97zl.weak
/-! the class: every call returns (what a run holds) -/
def wkL : List (Nat × Int) := [(6, 4), (601, 899), (602, 900), (11609, 3000), (12205, 800), (12811, 3800), (14003, 100), (14401, 64), (15109, 3000), (15705, 800), (16311, 3800), (17503, 100), (17901, 64), (18509, 3000), (19105, 800), (19711, 3800), (20903, 100), (21301, 64), (21909, 3000), (22505, 800), (23111, 3800), (24303, 100), (24701, 64), (25309, 3000), (25905, 800), (26511, 3800), (27703, 100), (28101, 64)]
/-- the counts are within bounds -/
def wkB (u : rg_U) : Prop := ∀ p, p ∈ wkL → 0 ≤ (u.1 p.1).toInt ∧ (u.1 p.1).toInt ≤ p.2
/-- what is no run's is as it was -/
def wkF (u0 u : rg_U) : Prop := (∀ i, i < 13 → u.1 i = u0.1 i) ∧ (∀ j, j < 6 → u.2.1 j = u0.2.1 j) ∧ u.2.2 = u0.2.2
def wkX (u0 u : rg_U) : Prop := wkB u ∧ wkF u0 u
def wkG (u : rg_U) : Prop := (u.2.2.1 7 = none ∨ u.2.2.1 7 = some 116) ∧ (∀ k, k < 4 → u.2.2.2 150 k = some (151 + 34 * k)) ∧ ∀ k, k < 101 → u.2.2.2 9 k = some (10 + k)
abbrev wkT (i : Nat) (b : Int) : Prop := ∀ p, p ∈ wkL → p.1 = i → p.2 = b
abbrev wkN (i : Nat) : Prop := ∀ p, p ∈ wkL → ¬ p.1 = i
section WKX
variable {F o j s : Nat} {x y z v i : Int32} {u0 u w : rg_U}
theorem wx_r (h : wkB u) : wkX u u := ⟨h, fun _ _ => rfl, fun _ _ => rfl, rfl⟩
theorem wx_t (h : wkX u0 u) (h2 : wkX u w) : wkX u0 w := ⟨h2.1, fun i hi => (h2.2.1 i hi).trans (h.2.1 i hi), fun j hj => (h2.2.2.1 j hj).trans (h.2.2.1 j hj), h2.2.2.2.trans h.2.2.2⟩
theorem wx_G (hG : wkG u0) (h : wkX u0 u) : wkG u := by
  unfold wkG
  rw [h.2.2.2]
  exact hG
theorem wx_U {k : Nat} (h : wkX u0 u) (hk : 13 ≤ k) (hb : ∀ p, p ∈ wkL → p.1 = k → 0 ≤ v.toInt ∧ v.toInt ≤ p.2) : wkX u0 (rg_F u k v) := by
  have e : ∀ i, (rg_F u k v).1 i = if i = k then v else u.1 i := fun i => rfl
  refine ⟨fun p hp => ?_, fun i hi => ?_, h.2.2.1, h.2.2.2⟩
  · rw [e]
    by_cases q : p.1 = k
    · rw [if_pos q]; exact hb p hp q
    · rw [if_neg q]; exact h.1 p hp
  · rw [e, if_neg (by omega)]; exact h.2.1 i hi
theorem wx_b {b : Int} (h : wkX u0 u) (hk : 13 ≤ 100 * j + s) (hb : wkT (100 * j + s) b) (h0 : 0 ≤ v.toInt) (h1 : v.toInt ≤ b) : wkX u0 (sF u j s v) := wx_U h hk (fun p hp e => ⟨h0, by rw [hb p hp e]; exact h1⟩)
theorem wx_n (h : wkX u0 u) (hk : 13 ≤ 100 * j + s) (hb : wkN (100 * j + s)) : wkX u0 (sF u j s v) := wx_U h hk (fun p hp e => absurd e (hb p hp))
theorem wx_R {k : Nat} (h : wkX u0 u) (hj : 6 ≤ j) : wkX u0 (rg_R u j k v) := ⟨h.1, h.2.1, fun j' hj' => by
  rw [← h.2.2.1 j' hj']
  funext i'
  rw [R_at, if_neg (by omega)], h.2.2.2⟩
theorem wx_A (h : wkX u0 u) (hj : 6 ≤ j) : wkX u0 (sA u j i v) := wx_R h hj
theorem wx_Z (h : wkX u0 u) (hj : 6 ≤ j) : wkX u0 (sZ u j i v) := wx_R h hj
theorem wx_up {f : Nat → Int32} (h : wkX u0 u) (hj : 6 ≤ j) : wkX u0 (u.1, va_up u.2.1 j f, u.2.2) := ⟨h.1, h.2.1, fun j' hj' => by
  rw [← h.2.2.1 j' hj']
  show va_up u.2.1 j f j' = _
  exact pm_up_n (by omega), h.2.2.2⟩
theorem rn_ge (h : isRn o) : 116 ≤ o := by rcases h with rfl | rfl | rfl | rfl | rfl <;> decide
theorem tb_9 (h : isRn o) : wkT (100 * o + 9) 3000 := by rcases h with rfl | rfl | rfl | rfl | rfl <;> decide
theorem tb_L (h : isRn o) : wkT (100 * (o + 6) + 5) 800 := by rcases h with rfl | rfl | rfl | rfl | rfl <;> decide
theorem tb_P (h : isRn o) : wkT (100 * (o + 12) + 11) 3800 := by rcases h with rfl | rfl | rfl | rfl | rfl <;> decide
theorem tb_C (h : isRn o) : wkT (100 * (o + 24) + 3) 100 := by rcases h with rfl | rfl | rfl | rfl | rfl <;> decide
theorem tb_H (h : isRn o) : wkT (100 * (o + 28) + 1) 64 := by rcases h with rfl | rfl | rfl | rfl | rfl <;> decide
theorem tn_10 (h : isRn o) : wkN (100 * o + 10) := by rcases h with rfl | rfl | rfl | rfl | rfl <;> decide
theorem tn_11 (h : isRn o) : wkN (100 * o + 11) := by rcases h with rfl | rfl | rfl | rfl | rfl <;> decide
theorem tn_12 (h : isRn o) : wkN (100 * o + 12) := by rcases h with rfl | rfl | rfl | rfl | rfl <;> decide
theorem tn_13 (h : isRn o) : wkN (100 * o + 13) := by rcases h with rfl | rfl | rfl | rfl | rfl <;> decide
theorem tn_14 (h : isRn o) : wkN (100 * o + 14) := by rcases h with rfl | rfl | rfl | rfl | rfl <;> decide
theorem tn_H2 (h : isRn o) : wkN (100 * (o + 28) + 2) := by rcases h with rfl | rfl | rfl | rfl | rfl <;> decide
theorem tn_H3 (h : isRn o) : wkN (100 * (o + 28) + 3) := by rcases h with rfl | rfl | rfl | rfl | rfl <;> decide
theorem tn_H4 (h : isRn o) : wkN (100 * (o + 28) + 4) := by rcases h with rfl | rfl | rfl | rfl | rfl <;> decide
theorem b_9 (h : wkX u0 u) (ho : isRn o) : 0 ≤ (rF u o 9).toInt ∧ (rF u o 9).toInt ≤ 3000 := by
  rcases ho with rfl | rfl | rfl | rfl | rfl
  · exact h.1 (11609, 3000) (by decide)
  · exact h.1 (15109, 3000) (by decide)
  · exact h.1 (18509, 3000) (by decide)
  · exact h.1 (21909, 3000) (by decide)
  · exact h.1 (25309, 3000) (by decide)
theorem b_L (h : wkX u0 u) (ho : isRn o) : 0 ≤ (rF u (o + 6) 5).toInt ∧ (rF u (o + 6) 5).toInt ≤ 800 := by
  rcases ho with rfl | rfl | rfl | rfl | rfl
  · exact h.1 (12205, 800) (by decide)
  · exact h.1 (15705, 800) (by decide)
  · exact h.1 (19105, 800) (by decide)
  · exact h.1 (22505, 800) (by decide)
  · exact h.1 (25905, 800) (by decide)
theorem b_P (h : wkX u0 u) (ho : isRn o) : 0 ≤ (rF u (o + 12) 11).toInt ∧ (rF u (o + 12) 11).toInt ≤ 3800 := by
  rcases ho with rfl | rfl | rfl | rfl | rfl
  · exact h.1 (12811, 3800) (by decide)
  · exact h.1 (16311, 3800) (by decide)
  · exact h.1 (19711, 3800) (by decide)
  · exact h.1 (23111, 3800) (by decide)
  · exact h.1 (26511, 3800) (by decide)
theorem b_C (h : wkX u0 u) (ho : isRn o) : 0 ≤ (rF u (o + 24) 3).toInt ∧ (rF u (o + 24) 3).toInt ≤ 100 := by
  rcases ho with rfl | rfl | rfl | rfl | rfl
  · exact h.1 (14003, 100) (by decide)
  · exact h.1 (17503, 100) (by decide)
  · exact h.1 (20903, 100) (by decide)
  · exact h.1 (24303, 100) (by decide)
  · exact h.1 (27703, 100) (by decide)
theorem b_H (h : wkX u0 u) (ho : isRn o) : 0 ≤ (rF u (o + 28) 1).toInt ∧ (rF u (o + 28) 1).toInt ≤ 64 := by
  rcases ho with rfl | rfl | rfl | rfl | rfl
  · exact h.1 (14401, 64) (by decide)
  · exact h.1 (17901, 64) (by decide)
  · exact h.1 (21301, 64) (by decide)
  · exact h.1 (24701, 64) (by decide)
  · exact h.1 (28101, 64) (by decide)
theorem b_a (h : wkX u0 u) : 0 ≤ (rF u 6 1).toInt ∧ (rF u 6 1).toInt ≤ 899 := h.1 (601, 899) (by decide)
theorem b_w (h : wkX u0 u) : 0 ≤ (rF u 6 2).toInt ∧ (rF u 6 2).toInt ≤ 900 := h.1 (602, 900) (by decide)
/-! loops over what a run holds -/
theorem z_latestBy (hb : 0 ≤ (rF u o 1).toInt ∧ (rF u o 1).toInt ≤ 64) (hF : 10000 < F) : Tt (g_X2_latestBy F o x u) (fun _ => True) := by
  unfold g_X2_latestBy
  refine tt_b (tt_lp (I := fun s => 0 ≤ s.2.toInt ∧ s.2.toInt ≤ 64) (m := fun s => (64 - s.2.toInt).toNat) (P := fun _ => True) ?_ F _ ?_ ?_) (fun _ _ => trivial)
  · rintro ⟨a, c⟩ ⟨h1, h2⟩
    dsimp only at h1 h2 ⊢
    unfold g_X2_latestBy_l4
    refine tt_if (fun _ => tt_r trivial) (fun h3 => tt_ob z_timeOf2 (fun r _ => tt_if (fun _ => tt_r trivial) (fun _ => tt_ob z_timeOf2 (fun r2 _ => tt_l ?_))))
    have h4 : c.toInt < (rF u o 1).toInt := (by (try simp only [inb, Int32.lt_iff_toInt_lt, Int32.le_iff_toInt_le, t_m1, t_0, t_1, t_2, t_4, t_8, t_10, t_18, t_23, t_32, t_40, t_64, t_100, t_500, t_800, t_900, t_3000, t_3800] at *) <;> omega)
    have := t_a1 (x := c) (by omega)
    dsimp only
    omega
  · dsimp only
    rw [t_0]
    omega
  · dsimp only
    rw [t_0]
    omega
theorem z_stepsToFind (hb : 0 ≤ (rF u o 1).toInt ∧ (rF u o 1).toInt ≤ 64) (hF : 10000 < F) : Tt (g_X2_stepsToFind F o x y u) (fun _ => True) := by
  unfold g_X2_stepsToFind
  refine tt_b (tt_lp (I := fun s => -1 ≤ s.2.2.toInt ∧ s.2.2.toInt ≤ 64) (m := fun s => (s.2.2.toInt + 1).toNat) (P := fun _ => True) ?_ F _ ?_ ?_) (fun _ _ => trivial)
  · rintro ⟨a, c, e⟩ ⟨h1, h2⟩
    dsimp only at h1 h2 ⊢
    unfold g_X2_stepsToFind_l13
    refine tt_if (fun _ => tt_r trivial) (fun h3 => tt_if (fun _ => tt_r trivial) (fun _ => ?_))
    have h4 : 0 ≤ e.toInt := (by (try simp only [inb, Int32.lt_iff_toInt_lt, Int32.le_iff_toInt_le, t_m1, t_0, t_1, t_2, t_4, t_8, t_10, t_18, t_23, t_32, t_40, t_64, t_100, t_500, t_800, t_900, t_3000, t_3800] at *) <;> omega)
    have := t_d1 (x := e) (by omega)
    have fin : ∀ p q, Tt (g_X2_stepsToFind_j57 F o x p q e u) (PS (fun s' : Int32 × Int32 × Int32 => (-1 ≤ s'.2.2.toInt ∧ s'.2.2.toInt ≤ 64) ∧ (s'.2.2.toInt + 1).toNat < (e.toInt + 1).toNat) (fun _ : Int32 => True)) := fun p q => tt_l (by dsimp only; omega)
    exact tt_ob z_timeOf2 (fun r _ => tt_if (fun _ => fin _ _) (fun _ => tt_ob z_timeOf2 (fun _ _ => tt_ob z_timeOf2 (fun _ _ => fin _ _))))
  · dsimp only
    have := t_s1 (x := rF u o 1) (by omega)
    omega
  · dsimp only
    have := t_s1 (x := rF u o 1) (by omega)
    omega
theorem z_putBy (hb : 0 ≤ (rF u o 11).toInt ∧ (rF u o 11).toInt ≤ 3800) (hF : 10000 < F) : Tt (g_X6_putBy F o x y u) (fun _ => True) := by
  unfold g_X6_putBy
  refine tt_ob z_latestOf (fun r _ => tt_b (tt_lp (I := fun s => s.2.toInt ≤ 3800) (m := fun s => s.2.toInt.toNat) (P := fun _ => True) ?_ F _ ?_ ?_) (fun _ _ => trivial))
  · rintro ⟨a, c⟩ h1
    dsimp only at h1 ⊢
    unfold g_X6_putBy_l12
    refine tt_if (fun _ => tt_r trivial) (fun h3 => tt_ob z_timeOf6 (fun r _ => tt_if (fun _ => tt_r trivial) (fun _ => tt_ob z_aheadOf (fun r2 _ => tt_l ?_))))
    have h4 : 0 < c.toInt := (by (try simp only [inb, Int32.lt_iff_toInt_lt, Int32.le_iff_toInt_le, t_m1, t_0, t_1, t_2, t_4, t_8, t_10, t_18, t_23, t_32, t_40, t_64, t_100, t_500, t_800, t_900, t_3000, t_3800] at *) <;> omega)
    have := t_d1 (x := c) (by omega)
    dsimp only
    omega
  · dsimp only
    omega
  · dsimp only
    omega
theorem z_changedSince (hb : 0 ≤ (rF u o 11).toInt ∧ (rF u o 11).toInt ≤ 3800) (hF : 10000 < F) : Tt (g_X6_changedSince F o x u) (fun _ => True) := by
  unfold g_X6_changedSince
  refine tt_ob (tt_lp (I := fun s => s.2.toInt ≤ 3800) (m := fun s => s.2.toInt.toNat) (P := fun _ => True) ?_ F _ ?_ ?_) (fun r _ => tt_os (fun a _ => ?_) (fun a _ => ?_))
  · rintro ⟨a, c⟩ h1
    dsimp only at h1 ⊢
    unfold g_X6_changedSince_l7
    refine tt_if (fun _ => tt_r trivial) (fun h3 => tt_ob z_aheadOf (fun r _ => tt_ob z_has6 (fun r2 _ => tt_if (fun _ => tt_r trivial) (fun _ => tt_ob z_aheadOf (fun _ _ => tt_ob z_changesOf (fun _ _ => tt_ob z_changesOf (fun _ _ => tt_if (fun _ => tt_ob z_aheadOf (fun _ _ => tt_l ?_)) (fun _ => tt_r trivial))))))))
    have h4 : 0 < c.toInt := (by (try simp only [inb, Int32.lt_iff_toInt_lt, Int32.le_iff_toInt_le, t_m1, t_0, t_1, t_2, t_4, t_8, t_10, t_18, t_23, t_32, t_40, t_64, t_100, t_500, t_800, t_900, t_3000, t_3800] at *) <;> omega)
    have := t_d1 (x := c) (by omega)
    dsimp only
    omega
  · dsimp only
    omega
  · dsimp only
    omega
  · unfold g_X6_changedSince_j55
    exact tt_b z_timeOf6 (fun _ _ => trivial)
  · unfold g_X6_changedSince_j55
    exact tt_b z_timeOf6 (fun _ _ => trivial)
theorem z_hadBy (hb : 0 ≤ (rF u o 11).toInt ∧ (rF u o 11).toInt ≤ 3800) (hF : 10000 < F) : Tt (g_X6_hadBy F o x y z v u) (fun _ => True) := by
  unfold g_X6_hadBy
  refine tt_ob z_latestOf (fun r _ => tt_ob (tt_lp (I := fun s => -1 ≤ s.2.2.toInt ∧ s.2.2.toInt ≤ 3800) (m := fun s => (s.2.2.toInt + 1).toNat) (P := fun _ => True) ?_ F _ ?_ ?_) (fun r _ => tt_os (fun _ _ => tt_s trivial) (fun _ _ => tt_s trivial)))
  · rintro ⟨a, c, e⟩ ⟨h1, h2⟩
    dsimp only at h1 h2 ⊢
    unfold g_X6_hadBy_l16
    refine tt_if (fun _ => tt_r trivial) (fun h3 => tt_if (fun _ => tt_r trivial) (fun _ => ?_))
    have h4 : 0 ≤ e.toInt := (by (try simp only [inb, Int32.lt_iff_toInt_lt, Int32.le_iff_toInt_le, t_m1, t_0, t_1, t_2, t_4, t_8, t_10, t_18, t_23, t_32, t_40, t_64, t_100, t_500, t_800, t_900, t_3000, t_3800] at *) <;> omega)
    have := t_d1 (x := e) (by omega)
    have fin : ∀ p q, Tt (g_X6_hadBy_j62 F o z v p q e u) (PS (fun s' : Int32 × Int32 × Int32 => (-1 ≤ s'.2.2.toInt ∧ s'.2.2.toInt ≤ 3800) ∧ (s'.2.2.toInt + 1).toNat < (e.toInt + 1).toNat) (fun _ : Int32 ⊕ Unit => True)) := fun p q => by
      unfold g_X6_hadBy_j62
      exact tt_ob z_aheadOf (fun _ _ => tt_l (by dsimp only; omega))
    exact tt_ob z_timeOf6 (fun r _ => tt_if (fun _ => fin _ _) (fun _ => tt_ob z_hasValue (fun _ _ => tt_if (fun _ => tt_ob z_timeOf6 (fun _ _ => fin _ _)) (fun _ => tt_r trivial))))
  · dsimp only
    omega
  · dsimp only
    omega
theorem z_changeTimes (hF : 10000 < F) : Tt (g_X6_changeTimes F o x y u) (fun _ => True) := by
  unfold g_X6_changeTimes
  refine tt_ob (tt_lp (I := fun s => 0 ≤ s.2.2.toInt ∧ s.2.2.toInt ≤ 3800) (m := fun s => (3800 - s.2.2.toInt).toNat) (P := fun r => ∀ a, r = Sum.inl a → inb a 3800) ?_ F _ ?_ ?_) (fun r hr => tt_os (fun a ha => tt_ck (hr a ha) (tt_s trivial)) (fun a _ => ?_))
  · rintro ⟨a, c, e⟩ ⟨h1, h2⟩
    dsimp only at h1 h2 ⊢
    unfold g_X6_changeTimes_l8
    refine tt_if (fun _ => tt_r fun a h => by cases h) (fun _ => tt_if (fun _ => tt_r fun a h => by cases h) (fun h3 => ?_))
    have h4 : e.toInt < 3800 := (by (try simp only [inb, Int32.lt_iff_toInt_lt, Int32.le_iff_toInt_le, t_m1, t_0, t_1, t_2, t_4, t_8, t_10, t_18, t_23, t_32, t_40, t_64, t_100, t_500, t_800, t_900, t_3000, t_3800] at *) <;> omega)
    have hi : inb e 3800 := ⟨h1, h4⟩
    have := t_a1 (x := e) (by omega)
    have fin : ∀ p q, Tt (g_X6_changeTimes_j94 F o x y p q e u) (PS (fun s' : Int32 × Int32 × Int32 => (0 ≤ s'.2.2.toInt ∧ s'.2.2.toInt ≤ 3800) ∧ (3800 - s'.2.2.toInt).toNat < (3800 - e.toInt).toNat) (fun r : Int32 ⊕ Int32 => ∀ a, r = Sum.inl a → inb a 3800)) := fun p q => tt_l (by dsimp only; omega)
    exact tt_ck hi (tt_if (fun _ => tt_ck hi (tt_if (fun _ => fin _ _) (fun _ => tt_ck hi (tt_ck hi (tt_ob z_changesOf (fun _ _ => tt_if (fun _ => fin _ _) (fun _ => tt_if (fun _ => tt_r fun a h => by cases h; exact hi) (fun _ => tt_ck hi (fin _ _))))))))) (fun _ => fin _ _))
  · dsimp only
    rw [t_0]
    omega
  · dsimp only
    rw [t_0]
    omega
  · unfold g_X6_changeTimes_j100
    exact tt_if (fun _ => tt_s trivial) (fun _ => tt_s trivial)
theorem z_markedStep {o' N : Nat} (hN : N < 2 ^ 31) (hF : 10000 < F) : Tt (g_X6_markedStep F o x o' N u) (fun _ => True) := by
  unfold g_X6_markedStep
  refine tt_ob (tt_lp (I := fun s => 0 ≤ s.2.toInt ∧ s.2.toInt ≤ 3800) (m := fun s => (3800 - s.2.toInt).toNat) (P := fun r => ∀ a, r = Sum.inl a → inb a 3800) ?_ F _ ?_ ?_) (fun r hr => tt_os (fun a ha => tt_ck (hr a ha) (tt_s trivial)) (fun a _ => ?_))
  · rintro ⟨a, e⟩ ⟨h1, h2⟩
    dsimp only at h1 h2 ⊢
    unfold g_X6_markedStep_l5
    refine tt_if (fun _ => tt_r fun a h => by cases h) (fun _ => tt_if (fun _ => tt_r fun a h => by cases h) (fun h3 => ?_))
    have h4 : e.toInt < 3800 := (by (try simp only [inb, Int32.lt_iff_toInt_lt, Int32.le_iff_toInt_le, t_m1, t_0, t_1, t_2, t_4, t_8, t_10, t_18, t_23, t_32, t_40, t_64, t_100, t_500, t_800, t_900, t_3000, t_3800] at *) <;> omega)
    have hi : inb e 3800 := ⟨h1, h4⟩
    have := t_a1 (x := e) (by omega)
    have fin : ∀ p, Tt (g_X6_markedStep_j58 F o o' N x p e u) (PS (fun s' : Int32 × Int32 => (0 ≤ s'.2.toInt ∧ s'.2.toInt ≤ 3800) ∧ (3800 - s'.2.toInt).toNat < (3800 - e.toInt).toNat) (fun r : Int32 ⊕ Int32 => ∀ a, r = Sum.inl a → inb a 3800)) := fun p => tt_l (by dsimp only; omega)
    exact tt_ob (z_isMarked hN) (fun _ _ => tt_if (fun _ => fin _) (fun _ => tt_ck hi (tt_if (fun _ => fin _) (fun _ => tt_if (fun _ => tt_r fun a h => by cases h; exact hi) (fun _ => fin _)))))
  · dsimp only
    rw [t_0]
    omega
  · dsimp only
    rw [t_0]
    omega
  · unfold g_X6_markedStep_j64
    exact tt_if (fun _ => tt_s trivial) (fun _ => tt_s trivial)
end WKX
end W_52
section W_53
-- 97zm.weak
/-! the class: every call returns (what changes a run) -/
theorem t_nI {x : Int32} {N : Nat} (h0 : 0 ≤ x.toInt) (h1 : x.toInt ≤ N) : ∃ n, n ≤ N ∧ x = nI n := by
  obtain ⟨n, hn, e⟩ := nI_of (x := x) (by rw [Int32.lt_iff_toInt_lt, t_0]; omega)
  have := nI_toInt hn
  rw [← e] at this
  exact ⟨n, by omega, e⟩
section WKM
variable {F o j s : Nat} {x y z v i a b c d e : Int32} {u0 u w : rg_U}
theorem wx_O (h : wkX u0 u) : ∃ a n, okO9 u a n := by
  obtain ⟨a, ha, e1⟩ := t_nI (x := rF u 6 1) (N := 899) (b_a h).1 (b_a h).2
  obtain ⟨n, hn, e2⟩ := t_nI (x := rF u 6 2) (N := 900) (b_w h).1 (b_w h).2
  exact ⟨a, n, e1, e2, by omega, hn⟩
theorem wx_61 {n : Nat} (h : wkX u0 u) (hn : n ≤ 899) : wkX u0 (sF u 6 1 (nI n)) := wx_b (b := 899) h (by decide) (by decide) (by rw [nI_toInt (by omega)]; omega) (by rw [nI_toInt (by omega)]; omega)
theorem wx_62 {n : Nat} (h : wkX u0 u) (hn : n ≤ 900) : wkX u0 (sF u 6 2 (nI n)) := wx_b (b := 900) h (by decide) (by decide) (by rw [nI_toInt (by omega)]; omega) (by rw [nI_toInt (by omega)]; omega)
theorem k_addFirst (h : wkX u0 u) : Tt (g_X4_addFirst F x u) (fun w => wkX u0 w) := by
  obtain ⟨a, n, ho⟩ := wx_O h
  by_cases q : n = 900
  · subst q
    unfold g_X4_addFirst
    rw [ho.2.1, if_pos (by decide)]
    exact tt_s h
  · have hn := ho.2.2.2
    obtain ⟨w, e, -, -, -, hw⟩ := c_addFirst (F := F) (x := x) ho (by omega)
    refine ⟨w, e, ?_⟩
    rw [hw]
    exact wx_62 (wx_R (wx_61 h (by omega)) (by decide)) (by omega)
theorem k_addLast (h : wkX u0 u) : Tt (g_X4_addLast F x u) (fun w => wkX u0 w) := by
  obtain ⟨a, n, ho⟩ := wx_O h
  by_cases q : n = 900
  · subst q
    unfold g_X4_addLast
    rw [ho.2.1, if_pos (by decide)]
    exact tt_s h
  · have hn := ho.2.2.2
    obtain ⟨w, e, -, hw, -, -⟩ := c_addLast (F := F) (x := x) ho (by omega)
    refine ⟨w, e, ?_⟩
    rw [hw]
    exact wx_62 (wx_R h (by decide)) (by omega)
theorem k_takeFirst (h : wkX u0 u) : Tt (g_X4_takeFirst F u) (fun z => wkX u0 z.2) := by
  obtain ⟨a, n, ho⟩ := wx_O h
  cases n with
  | zero =>
    unfold g_X4_takeFirst
    rw [ho.2.1, if_neg (by decide)]
    exact tt_s h
  | succ n =>
    have hn := ho.2.2.2
    obtain ⟨w, e, hw, -, -⟩ := c_takeFirst (F := F) ho
    refine ⟨_, e, ?_⟩
    rw [hw]
    exact wx_62 (wx_61 h (by omega)) (by omega)
theorem k_draw (h : wkX u0 u) : Tt (g_X4_draw F x u) (fun z => wkX u0 z.2) := by
  have h3 : ∀ v, wkX u0 (sF u 6 3 v) := fun v => wx_n h (by decide) (by decide)
  unfold g_X4_draw
  exact tt_lt (tt_if (fun h1 => tt_ck (fun h0 => by rw [h0] at h1; exact absurd h1 (by decide)) (tt_s (h3 _))) (fun _ => tt_s (h3 _)))
theorem k_add3 (h : wkX u0 u) (ho : isRn o) : Tt (g_X3_add F (o + 6) a b c d e u) (fun w => wkX u0 w) := by
  have hg := rn_ge ho
  unfold g_X3_add
  refine tt_if (fun _ => tt_s h) (fun h1 => tt_if (fun _ => tt_s h) (fun h2 => ?_))
  have hi : inb (rF u (o + 6) 5) 800 := (by (try simp only [inb, Int32.lt_iff_toInt_lt, Int32.le_iff_toInt_le, t_m1, t_0, t_1, t_2, t_4, t_8, t_10, t_18, t_23, t_32, t_40, t_64, t_100, t_500, t_800, t_900, t_3000, t_3800] at *) <;> omega)
  have ht := t_a1 (x := rF u (o + 6) 5) (by have := hi.2; omega)
  have hi1 := hi.1
  have hi2 := hi.2
  exact tt_ck hi (tt_lt (tt_ck hi (tt_lt (tt_ck hi (tt_lt (tt_ck hi (tt_lt (tt_ck hi (tt_lt (tt_lt (tt_s (wx_b (wx_A (wx_A (wx_A (wx_A (wx_A h (by omega)) (by omega)) (by omega)) (by omega)) (by omega)) (by omega) (tb_L ho) (by show 0 ≤ (rF u (o + 6) 5 + 1).toInt; omega) (by show (rF u (o + 6) 5 + 1).toInt ≤ 800; omega)))))))))))))
theorem k_add1 (h : wkX u0 u) (ho : isRn o) : Tt (g_X1_add F (o + 24) a b c u) (fun w => wkX u0 w) := by
  have hg := rn_ge ho
  unfold g_X1_add
  refine tt_if (fun _ => tt_s h) (fun h1 => tt_if (fun _ => tt_s h) (fun h2 => ?_))
  have hi : inb (rF u (o + 24) 3) 100 := (by (try simp only [inb, Int32.lt_iff_toInt_lt, Int32.le_iff_toInt_le, t_m1, t_0, t_1, t_2, t_4, t_8, t_10, t_18, t_23, t_32, t_40, t_64, t_100, t_500, t_800, t_900, t_3000, t_3800] at *) <;> omega)
  have ht := t_a1 (x := rF u (o + 24) 3) (by have := hi.2; omega)
  have hi1 := hi.1
  have hi2 := hi.2
  exact tt_ck hi (tt_lt (tt_ck hi (tt_lt (tt_ck hi (tt_lt (tt_lt (tt_s (wx_b (wx_A (wx_A (wx_A h (by omega)) (by omega)) (by omega)) (by omega) (tb_C ho) (by show 0 ≤ (rF u (o + 24) 3 + 1).toInt; omega) (by show (rF u (o + 24) 3 + 1).toInt ≤ 100; omega)))))))))
theorem k_add6 (h : wkX u0 u) (ho : isRn o) : Tt (g_X6_add F (o + 12) x y z v u) (fun r => wkX u0 r.2 ∧ (r.1 = 0 ∨ r.1 = 1)) := by
  have hg := rn_ge ho
  unfold g_X6_add
  refine tt_if (fun _ => tt_s ⟨h, Or.inl rfl⟩) (fun hp => tt_if (fun _ => tt_s ⟨h, Or.inl rfl⟩) (fun h1 => tt_if (fun h2 => ?_) (fun _ => tt_s ⟨h, Or.inl rfl⟩)))
  have hpl := z_place hp
  have hi : inb (rF u (o + 12) 11) 3800 := by
    clear hp hpl
    (try simp only [inb, Int32.lt_iff_toInt_lt, Int32.le_iff_toInt_le, t_m1, t_0, t_1, t_2, t_4, t_8, t_10, t_18, t_23, t_32, t_40, t_64, t_100, t_500, t_800, t_900, t_3000, t_3800] at *) <;> omega
  have ht := t_a1 (x := rF u (o + 12) 11) (by have := hi.2; omega)
  have hi1 := hi.1
  have hi2 := hi.2
  have j118 : ∀ (w : rg_U) (l5 l6 s0 s1 s2 : Int32), wkX u0 w → rF w (o + 12) 11 = rF u (o + 12) 11 → s2 = rF u (o + 12) 11 → (l6 = 0 ∨ l6 = 1) → Tt (g_X6_add_j118 F (o + 12) y l5 l6 s0 s1 s2 w) (fun r => wkX u0 r.2 ∧ (r.1 = 0 ∨ r.1 = 1)) := by
    intro w l5 l6 s0 s1 s2 hw ew e2 h6
    subst e2
    unfold g_X6_add_j118
    have hiw : inb (rF w (o + 12) 11) 3800 := by rw [ew]; exact hi
    refine tt_ck hi (tt_lt (tt_ck hiw (tt_lt (tt_ck hpl (tt_lt (tt_lt (tt_ck h6 (tt_s ⟨wx_b (wx_A (wx_A (wx_A hw (by omega)) (by omega)) (by omega)) (by omega) (tb_P ho) ?_ ?_, h6⟩))))))))
    · show 0 ≤ (rF w (o + 12) 11 + 1).toInt
      rw [ew]; omega
    · show (rF w (o + 12) 11 + 1).toInt ≤ 3800
      rw [ew]; omega
  have j51 : ∀ (l5 s0 : Int32), (s0 = 0 ∨ s0 = 1) → Tt (g_X6_add_j51 F (o + 12) x y z v l5 s0 u) (fun r => wkX u0 r.2 ∧ (r.1 = 0 ∨ r.1 = 1)) := by
    intro l5 s0 h0
    unfold g_X6_add_j51
    have hw : ∀ i1 i2 i3 i4, wkX u0 (sA (sA (sA (sA u (o + 12 + 1) i1 x) (o + 12 + 2) i2 y) (o + 12 + 3) i3 z) (o + 12 + 4) i4 v) := fun _ _ _ _ => wx_A (wx_A (wx_A (wx_A h (by omega)) (by omega)) (by omega)) (by omega)
    exact tt_ck hi (tt_lt (tt_ck hi (tt_lt (tt_ck hi (tt_lt (tt_ck hi (tt_lt (tt_ob z_changesOf (fun r _ => tt_if (fun _ => j118 _ _ _ _ _ _ (hw _ _ _ _) rfl rfl h0) (fun _ => j118 _ _ _ _ _ _ (hw _ _ _ _) rfl rfl h0))))))))))
  exact tt_ck hpl (tt_ob z_hasValue (fun _ _ => tt_if (fun _ => j51 _ _ (Or.inr rfl)) (fun _ => j51 _ _ (Or.inl rfl))))
theorem k_rest (h : wkX u0 u) (ho : isRn o) : Tt (g_X6_restLatestOn F (o + 12) x y z v u) (fun w => wkX u0 w) := by
  have hg := rn_ge ho
  unfold g_X6_restLatestOn
  exact tt_ob z_has6 (fun r hr => tt_if (fun _ => tt_s h) (fun q => tt_ck (hr q) (tt_lt (tt_ck (hr q) (tt_lt (tt_ck (hr q) (tt_lt (tt_ck (hr q) (tt_lt (tt_s (wx_A (wx_A (wx_A (wx_A h (by omega)) (by omega)) (by omega)) (by omega))))))))))))
theorem k_put (h : wkX u0 u) (ho : isRn o) : Tt (g_X7_putByStep F o x y z v a u) (fun w => wkX u0 w) := by
  have hg := rn_ge ho
  unfold g_X7_putByStep
  exact tt_ob (k_add6 h ho) (fun r hr => tt_ob (k_rest hr.1 ho) (fun r6 h6 => tt_if (fun _ => tt_lt (tt_s (wx_n h6 (by omega) (tn_11 ho)))) (fun _ => tt_lt (tt_s (wx_n h6 (by omega) (tn_11 ho))))))
theorem k_copy (h : wkX u0 u) (ho : isRn o) : Tt (g_X8_copy F o x y u) (fun w => wkX u0 w) := by
  unfold g_X8_copy
  exact tt_ob z_sortOf (fun _ _ => tt_ob z_numberOf (fun _ _ => tt_b (k_put h ho) (fun _ q => q)))
theorem k_compare (h : wkX u0 u) (ho : isRn o) : Tt (g_X8_compare F o x y z u) (fun w => wkX u0 w) := by
  unfold g_X8_compare g_X8_compare_j39
  exact tt_ob z_sortOf (fun _ _ => tt_ob z_numberOf (fun _ _ => tt_ob z_hasValue (fun _ _ => tt_if (fun _ => tt_b (k_put h ho) (fun _ q => q)) (fun _ => tt_b (k_put h ho) (fun _ q => q)))))
theorem k_combine (h : wkX u0 u) (ho : isRn o) : Tt (g_X8_combine F o x y z v u) (fun w => wkX u0 w.2) := by
  have j68 : ∀ s0, Tt (g_X8_combine_j68 F o x y z s0 u) (fun w => wkX u0 w.2) := fun s0 => by
    unfold g_X8_combine_j68
    exact tt_b (k_put h ho) (fun _ q => q)
  have j33 : Tt (g_X8_combine_j33 F o x y z v u) (fun w => wkX u0 w.2) := by
    unfold g_X8_combine_j33
    exact tt_ob z_numberOf (fun _ _ => tt_if (fun _ => j68 _) (fun _ => tt_ob z_numberOf (fun _ _ => j68 _)))
  unfold g_X8_combine
  exact tt_ob z_sortOf (fun _ _ => tt_if (fun _ => tt_if (fun _ => tt_ob z_sortOf (fun _ _ => tt_if (fun _ => j33) (fun _ => tt_s h))) (fun _ => j33)) (fun _ => tt_s h))
theorem k_fromCell (h : wkX u0 u) (ho : isRn o) : Tt (g_X8_fromCell F o x y u) (fun w => wkX u0 w.2) := by
  unfold g_X8_fromCell
  exact tt_ob z_sortOf (fun _ _ => tt_if (fun _ => tt_ob z_numberOf (fun _ _ => tt_if (fun _ => tt_s h) (fun _ => tt_if (fun _ => tt_ob z_latestOf (fun _ _ => tt_ob z_sortOf (fun _ _ => tt_ob z_numberOf (fun _ _ => tt_b (k_put h ho) (fun _ q => q))))) (fun _ => tt_s h)))) (fun _ => tt_s h))
theorem k_toCell (h : wkX u0 u) (ho : isRn o) : Tt (g_X8_toCell F o x y u) (fun w => wkX u0 w.2) := by
  unfold g_X8_toCell
  exact tt_ob z_sortOf (fun _ _ => tt_if (fun _ => tt_ob z_numberOf (fun _ _ => tt_if (fun _ => tt_s h) (fun _ => tt_if (fun _ => tt_ob z_sortOf (fun _ _ => tt_ob z_numberOf (fun _ _ => tt_b (k_put h ho) (fun _ q => q)))) (fun _ => tt_s h)))) (fun _ => tt_s h))
theorem k_outside (h : wkX u0 u) (ho : isRn o) : Tt (g_X7_putFromOutside F o x y z u) (fun w => wkX u0 w) := by
  unfold g_X7_putFromOutside g_X3_addWhole
  exact tt_ob (tt_b (k_add3 h ho) (fun _ q => q)) (fun _ h1 => tt_ob (k_put h1 ho) (fun _ h2 => tt_b (k_rest h2 ho) (fun _ q => q)))
theorem k_addOut (h : wkX u0 u) (ho : isRn o) : Tt (g_X7_addOut F o x y u) (fun w => wkX u0 w) := by
  have hg := rn_ge ho
  have hb := b_9 h ho
  unfold g_X7_addOut
  refine tt_if (fun _ => tt_s h) (fun h1 => tt_if (fun _ => tt_s h) (fun h2 => ?_))
  have h3 : (rF u o 9).toInt < 3000 := (by (try simp only [inb, Int32.lt_iff_toInt_lt, Int32.le_iff_toInt_le, t_m1, t_0, t_1, t_2, t_4, t_8, t_10, t_18, t_23, t_32, t_40, t_64, t_100, t_500, t_800, t_900, t_3000, t_3800] at *) <;> omega)
  have ht := t_a1 (x := rF u o 9) (by omega)
  have hi : inb (rF u o 9 + 1) 3001 := by constructor <;> omega
  have hj : inb (rF u o 9) 3001 := by constructor <;> omega
  exact tt_ck hi (tt_ck hi (tt_lt (tt_ck hj (tt_ck hi (tt_lt (tt_s (wx_A (wx_A h (by omega)) (by omega))))))))
theorem k_goOnAt (h : wkX u0 u) (ho : isRn o) : Tt (g_X7_goOnAt F o x u) (fun w => wkX u0 w) := by
  have hg := rn_ge ho
  have hb := b_9 h ho
  unfold g_X7_goOnAt
  refine tt_if (fun _ => tt_s h) (fun h1 => tt_if (fun _ => tt_s h) (fun h2 => ?_))
  have h3 : (rF u o 9).toInt < 3000 := (by (try simp only [inb, Int32.lt_iff_toInt_lt, Int32.le_iff_toInt_le, t_m1, t_0, t_1, t_2, t_4, t_8, t_10, t_18, t_23, t_32, t_40, t_64, t_100, t_500, t_800, t_900, t_3000, t_3800] at *) <;> omega)
  have ht := t_a1 (x := rF u o 9) (by omega)
  have hi : inb (rF u o 9 + 1) 3001 := by constructor <;> omega
  exact tt_ck hi (tt_lt (tt_s (wx_A h (by omega))))
theorem k_stackUp (h : wkX u0 u) (ho : isRn o) : Tt (g_X7_stackUp F o u) (fun w => wkX u0 w) := by
  have hg := rn_ge ho
  have hb := b_9 h ho
  unfold g_X7_stackUp
  refine tt_if (fun _ => tt_s h) (fun h1 => tt_if (fun _ => tt_s h) (fun h2 => ?_))
  have h3 : (rF u o 9).toInt < 3000 := (by (try simp only [inb, Int32.lt_iff_toInt_lt, Int32.le_iff_toInt_le, t_m1, t_0, t_1, t_2, t_4, t_8, t_10, t_18, t_23, t_32, t_40, t_64, t_100, t_500, t_800, t_900, t_3000, t_3800] at *) <;> omega)
  have ht := t_a1 (x := rF u o 9) (by omega)
  have hi : inb (rF u o 9 + 1) 3001 := by constructor <;> omega
  exact tt_ck hi (tt_lt (tt_s (wx_A h (by omega))))
theorem k_stackDown (h : wkX u0 u) (ho : isRn o) : Tt (g_X7_stackDown F o u) (fun w => wkX u0 w) := by
  have hg := rn_ge ho
  have hb := b_9 h ho
  unfold g_X7_stackDown
  refine tt_if (fun _ => tt_s h) (fun h1 => tt_if (fun _ => tt_s h) (fun h2 => ?_))
  have h3 : (rF u o 9).toInt < 3000 := (by (try simp only [inb, Int32.lt_iff_toInt_lt, Int32.le_iff_toInt_le, t_m1, t_0, t_1, t_2, t_4, t_8, t_10, t_18, t_23, t_32, t_40, t_64, t_100, t_500, t_800, t_900, t_3000, t_3800] at *) <;> omega)
  have ht := t_a1 (x := rF u o 9) (by omega)
  have hi : inb (rF u o 9 + 1) 3001 := by constructor <;> omega
  exact tt_ob z_topAt (fun _ _ => tt_ob z_topAt (fun _ _ => tt_ck hi (tt_lt (tt_s (wx_A h (by omega))))))
theorem k_putOut (h : wkX u0 u) (ho : isRn o) : Tt (g_X8_putOut F o x u) (fun w => wkX u0 w) := by
  unfold g_X8_putOut
  exact tt_ob z_sortOf (fun _ _ => tt_ob z_numberOf (fun _ _ => tt_b (k_addOut h ho) (fun _ q => q)))
theorem k_goOnIf (h : wkX u0 u) (ho : isRn o) : Tt (g_X8_goOnIf F o x y u) (fun w => wkX u0 w.2) := by
  unfold g_X8_goOnIf
  exact tt_ob z_sortOf (fun _ _ => tt_if (fun _ => tt_ob z_numberOf (fun _ _ => tt_if (fun _ => tt_b (k_goOnAt h ho) (fun _ q => q)) (fun _ => tt_s h))) (fun _ => tt_s h))
theorem k_goDown (h : wkX u0 u) (ho : isRn o) (hF : 10000 < F) : Tt (g_X8_goDown F o x u) (fun w => wkX u0 w.2) := by
  unfold g_X8_goDown
  exact tt_ob (z_stackSize hF) (fun _ _ => tt_if (fun _ => tt_ob (k_add1 h ho) (fun _ h1 => tt_ob (k_stackUp h1 ho) (fun _ h2 => tt_b (k_goOnAt h2 ho) (fun _ q => q)))) (fun _ => tt_s h))
theorem k_goUp (h : wkX u0 u) (ho : isRn o) (hF : 10000 < F) : Tt (g_X8_goUp F o u) (fun w => wkX u0 w) := by
  have hg := rn_ge ho
  unfold g_X8_goUp
  exact tt_ob (z_stackSize hF) (fun _ _ => tt_if (fun _ => tt_lt (tt_s (wx_n h (by omega) (tn_10 ho)))) (fun _ => tt_ob (z_stackedAt hF) (fun _ _ => tt_ob (k_goOnAt h ho) (fun _ h1 => tt_b (k_stackDown h1 ho) (fun _ q => q)))))
theorem k_reckon (h : wkX u0 u) (ho : isRn o) : Tt (g_X8_reckon F o x y z v u) (fun w => wkX u0 w.2) := by
  have j67 : ∀ l5 l6, Tt (g_X8_reckon_j67 F o x y z v l5 l6 u) (fun w => wkX u0 w.2) := fun l5 l6 => by
    unfold g_X8_reckon_j67 g_X8_reckon_j89
    exact tt_if (fun _ => tt_if (fun _ => tt_b (k_put h ho) (fun _ q => q)) (fun _ => tt_b (k_put h ho) (fun _ q => q))) (fun _ => tt_ob z_reckoned (fun _ _ => tt_b (k_put h ho) (fun _ q => q)))
  have j60 : ∀ l5 l6, Tt (g_X8_reckon_j60 F o x y z v l5 l6 u) (fun w => wkX u0 w.2) := fun l5 l6 => by
    unfold g_X8_reckon_j60
    exact tt_if (fun _ => tt_s h) (fun _ => j67 _ _)
  unfold g_X8_reckon
  exact tt_ob z_sortOf (fun _ _ => tt_if (fun _ => tt_ob z_sortOf (fun _ _ => tt_if (fun _ => tt_ob z_numberOf (fun _ _ => tt_ob z_numberOf (fun _ _ => tt_if (fun _ => j60 _ _) (fun _ => tt_if (fun _ => j60 _ _) (fun _ => j67 _ _))))) (fun _ => tt_s h))) (fun _ => tt_s h))
theorem k_perform (h : wkX u0 u) (ho : isRn o) (hF : 10000 < F) : Tt (g_X8_perform F o x u) (fun w => wkX u0 w.2) := by
  have hg := rn_ge ho
  have j405 : ∀ a b c d, Tt (g_X8_perform_j405 F o a b c d u) (fun w => wkX u0 w.2) := fun a b c d => by
    unfold g_X8_perform_j405
    exact tt_ob z_latestOf (fun _ _ => tt_ob z_latestOf (fun _ _ => tt_b (k_reckon h ho) (fun _ q => q)))
  unfold g_X8_perform
  refine tt_ob z_kindAt (fun _ _ => tt_ob z_firstAt (fun _ _ => tt_ob z_secondAt (fun _ _ => tt_ob z_thirdAt (fun _ _ => ?_))))
  refine tt_if (fun _ => tt_s h) (fun _ => ?_)
  refine tt_if (fun _ => tt_lt (tt_s (wx_n h (by omega) (tn_10 ho)))) (fun _ => ?_)
  refine tt_if (fun _ => tt_b (k_put h ho) (fun _ q => q)) (fun _ => ?_)
  refine tt_if (fun _ => tt_b (k_put h ho) (fun _ q => q)) (fun _ => ?_)
  refine tt_if (fun _ => tt_ob z_latestOf (fun _ _ => tt_b (k_copy h ho) (fun _ q => q))) (fun _ => ?_)
  refine tt_if (fun _ => tt_ob z_latestOf (fun _ _ => tt_ob z_latestOf (fun _ _ => tt_b (k_compare h ho) (fun _ q => q)))) (fun _ => ?_)
  refine tt_if (fun _ => tt_ob z_latestOf (fun _ _ => tt_b (k_combine h ho) (fun _ q => q))) (fun _ => ?_)
  refine tt_if (fun _ => tt_ob z_latestOf (fun _ _ => tt_ob z_latestOf (fun _ _ => tt_b (k_combine h ho) (fun _ q => q)))) (fun _ => ?_)
  refine tt_if (fun _ => tt_ob z_latestOf (fun _ _ => tt_b (k_fromCell h ho) (fun _ q => q))) (fun _ => ?_)
  refine tt_if (fun _ => tt_ob z_latestOf (fun _ _ => tt_ob z_latestOf (fun _ _ => tt_b (k_toCell h ho) (fun _ q => q)))) (fun _ => ?_)
  refine tt_if (fun _ => tt_b (k_goOnAt h ho) (fun _ q => q)) (fun _ => ?_)
  refine tt_if (fun _ => tt_ob z_latestOf (fun _ _ => tt_b (k_goOnIf h ho) (fun _ q => q))) (fun _ => ?_)
  refine tt_if (fun _ => tt_b (k_goDown h ho hF) (fun _ q => q)) (fun _ => ?_)
  refine tt_if (fun _ => tt_b (k_goUp h ho hF) (fun _ q => q)) (fun _ => ?_)
  refine tt_if (fun _ => tt_ob (k_takeFirst h) (fun _ h1 => tt_b (k_outside h1 ho) (fun _ q => q))) (fun _ => ?_)
  refine tt_if (fun _ => tt_ob (k_draw h) (fun _ h1 => tt_b (k_outside h1 ho) (fun _ q => q))) (fun _ => ?_)
  refine tt_if (fun _ => tt_ob z_latestOf (fun _ _ => tt_b (k_putOut h ho) (fun _ q => q))) (fun _ => ?_)
  refine tt_if (fun _ => tt_b (k_put h ho) (fun _ q => q)) (fun _ => ?_)
  exact j405 _ _ _ _
theorem k_dropGoes (h : wkX u0 u) (ho : isRn o) (hF : 10000 < F) : Tt (g_X2_dropWhatGoesBy F (o + 28) x u) (fun w => wkX u0 w) := by
  have hg := rn_ge ho
  unfold g_X2_dropWhatGoesBy
  refine tt_ob (tt_lp (I := fun s => wkX u0 s.2.2 ∧ (0 ≤ s.1.toInt ∧ s.1.toInt ≤ s.2.1.toInt ∧ s.2.1.toInt ≤ 64)) (m := fun s => (64 - s.2.1.toInt).toNat) (P := fun r => wkX u0 r.2 ∧ 0 ≤ r.1.toInt ∧ r.1.toInt ≤ 64) ?_ F _ ?_ ?_) (fun r hr => tt_lt (tt_s (wx_b hr.1 (by omega) (tb_H ho) hr.2.1 hr.2.2)))
  · rintro ⟨a, c, w⟩ ⟨h0, h1, h2, h3⟩
    dsimp only at h0 h1 h2 h3 ⊢
    unfold g_X2_dropWhatGoesBy_l4
    refine tt_if (fun _ => tt_r ⟨h0, h1, by dsimp only; omega⟩) (fun h4 => tt_if (fun _ => tt_r ⟨h0, h1, by dsimp only; omega⟩) (fun h5 => ?_))
    have h6 : c.toInt < 64 := (by (try simp only [inb, Int32.lt_iff_toInt_lt, Int32.le_iff_toInt_le, t_m1, t_0, t_1, t_2, t_4, t_8, t_10, t_18, t_23, t_32, t_40, t_64, t_100, t_500, t_800, t_900, t_3000, t_3800] at *) <;> omega)
    have tc := t_a1 (x := c) (by omega)
    have ta := t_a1 (x := a) (by omega)
    have j52 : ∀ (a' : Int32) (w' : rg_U), wkX u0 w' → (0 ≤ a'.toInt ∧ a'.toInt ≤ c.toInt + 1) → Tt (g_X2_dropWhatGoesBy_j52 F (o + 28) x a' c w') (PS (fun s' : Int32 × Int32 × rg_U => (wkX u0 s'.2.2 ∧ (0 ≤ s'.1.toInt ∧ s'.1.toInt ≤ s'.2.1.toInt ∧ s'.2.1.toInt ≤ 64)) ∧ (64 - s'.2.1.toInt).toNat < (64 - c.toInt).toNat) (fun r : Int32 × rg_U => wkX u0 r.2 ∧ 0 ≤ r.1.toInt ∧ r.1.toInt ≤ 64)) := fun a' w' hw' ha' => tt_l ⟨⟨hw', by dsimp only; omega⟩, by dsimp only; omega⟩
    have hi : inb c 64 := by constructor <;> omega
    have hj : inb a 64 := by constructor <;> omega
    have j37 : Tt (g_X2_dropWhatGoesBy_j37 F (o + 28) x a c w) (PS (fun s' : Int32 × Int32 × rg_U => (wkX u0 s'.2.2 ∧ (0 ≤ s'.1.toInt ∧ s'.1.toInt ≤ s'.2.1.toInt ∧ s'.2.1.toInt ≤ 64)) ∧ (64 - s'.2.1.toInt).toNat < (64 - c.toInt).toNat) (fun r : Int32 × rg_U => wkX u0 r.2 ∧ 0 ≤ r.1.toInt ∧ r.1.toInt ≤ 64)) := by
      unfold g_X2_dropWhatGoesBy_j37
      exact tt_ck hi (tt_ck hj (tt_lt (j52 _ _ (wx_A h0 (by omega)) (by omega))))
    exact tt_ob z_goesAt (fun _ _ => tt_if (fun _ => j37) (fun _ => tt_if (fun _ => j52 _ _ h0 (by omega)) (fun _ => j37)))
  · dsimp only
    rw [t_0]
    omega
  · dsimp only
    rw [t_0]
    exact ⟨h, by omega⟩
theorem k_timeComes (h : wkX u0 u) (ho : isRn o) (hF : 10000 < F) : Tt (g_X2_timeComes F (o + 28) x u) (fun w => wkX u0 w) := by
  have hg := rn_ge ho
  have j59 : ∀ w, wkX u0 w → Tt (g_X2_timeComes_j59 F (o + 28) w) (fun w => wkX u0 w) := fun w hw => by
    unfold g_X2_timeComes_j59
    exact tt_lt (tt_s (wx_n hw (by omega) (tn_H2 ho)))
  unfold g_X2_timeComes
  refine tt_if (fun _ => tt_s h) (fun h1 => tt_ck (fun h0 => h1 (by rw [h0]; decide)) (tt_if (fun _ => tt_ob (k_dropGoes h ho hF) (fun w hw => tt_if (fun _ => j59 _ hw) (fun _ => tt_if (fun _ => j59 _ hw) (fun h3 => ?_)))) (fun _ => tt_s h)))
  have hb := b_H hw ho
  have h4 : (rF w (o + 28) 1).toInt < 64 := (by (try simp only [inb, Int32.lt_iff_toInt_lt, Int32.le_iff_toInt_le, t_m1, t_0, t_1, t_2, t_4, t_8, t_10, t_18, t_23, t_32, t_40, t_64, t_100, t_500, t_800, t_900, t_3000, t_3800] at *) <;> omega)
  have ht := t_a1 (x := rF w (o + 28) 1) (by omega)
  have hi : inb (rF w (o + 28) 1) 64 := by constructor <;> omega
  exact tt_ck hi (tt_lt (tt_lt (j59 _ (wx_b (wx_A hw (by omega)) (by omega) (tb_H ho) (by show 0 ≤ (rF w (o + 28) 1 + 1).toInt; omega) (by show (rF w (o + 28) 1 + 1).toInt ≤ 64; omega)))))
theorem k_step (h : wkX u0 u) (ho : isRn o) (hF : 10000 < F) : Tt (g_X7_step F o u) (fun w => wkX u0 w) := by
  have hg := rn_ge ho
  have hb := b_9 h ho
  unfold g_X7_step
  refine tt_if (fun _ => tt_s h) (fun h1 => tt_if (fun h2 => ?_) (fun _ => tt_s h))
  have ht := t_a1 (x := rF u o 9) (by omega)
  have h3 : (rF u o 9).toInt + 1 ≤ 3000 := by
    rw [Int32.le_iff_toInt_le, t_3000] at h2
    omega
  have hi : inb (rF u o 9 + 1) 3001 := by constructor <;> omega
  have hj : inb (rF u o 9) 3001 := by constructor <;> omega
  have j121 : ∀ w, wkX u0 w → Tt (g_X7_step_j121 F o (rF u o 9 + 1) w) (fun w => wkX u0 w) := fun w hw => by
    unfold g_X7_step_j121
    exact tt_lt (tt_b (k_timeComes (wx_b hw (by omega) (tb_9 ho) (by omega) (by omega)) ho hF) (fun _ q => q))
  have e9 : rF (sF u o 11 (-1)) o 9 = rF u o 9 := by
    show upd u.1 (100 * o + 11) (-1) (100 * o + 9) = _
    rw [pk_un (by omega)]
    rfl
  have hw0 : wkX u0 (sF u o 11 (-1)) := wx_n h (by omega) (tn_11 ho)
  refine tt_lt (tt_ck (by rw [e9]; exact hj) (tt_ck hi (tt_lt (tt_ck (by show inb (rF (sF u o 11 (-1)) o 9) 3001; rw [e9]; exact hj) (tt_ck hi (tt_lt (tt_ck (by show inb (rF (sF u o 11 (-1)) o 9) 3001; rw [e9]; exact hj) (tt_ck hi (tt_lt (tt_ck (by show inb (rF (sF u o 11 (-1)) o 9) 3001; rw [e9]; exact hj) (tt_ck hi (tt_lt (tt_ck (by show inb (rF (sF u o 11 (-1)) o 9) 3001; rw [e9]; exact hj) (tt_ob (k_perform (u0 := u0) (wx_A (wx_A (wx_A (wx_A hw0 (by omega)) (by omega)) (by omega)) (by omega)) ho hF) (fun r hr => tt_if (fun _ => j121 _ hr) (fun _ => tt_lt (j121 _ (wx_n hr (by omega) (tn_10 ho)))))))))))))))))))
theorem k_poke (h : wkX u0 u) (ho : isRn o) : Tt (g_X7_putByPoke F o x y z u) (fun w => wkX u0 w.2) := by
  unfold g_X7_putByPoke g_X3_addPoke
  exact tt_ob (tt_b (k_add3 h ho) (fun _ q => q)) (fun _ h1 => tt_ob (k_add6 h1 ho) (fun r h2 => tt_ob (k_rest h2.1 ho) (fun _ h3 => tt_ck h2.2 (tt_s h3))))
end WKM
end W_53
section W_54
-- 97zn.weak
/-! the class: every call returns (back, keep, marks, two runs) -/
section WKN
variable {F o o' j s : Nat} {x y z v i a b c d e : Int32} {u0 u w : rg_U}
theorem k_dropFrom (h : wkX u0 u) (ho : isRn o) (hF : 10000 < F) : Tt (g_X1_dropFrom F (o + 24) x u) (fun w => wkX u0 w) := by
  have hg := rn_ge ho
  have hb := b_C h ho
  have hs := t_s1 (x := rF u (o + 24) 3) (by omega)
  unfold g_X1_dropFrom
  refine tt_b (tt_lp (I := fun s => wkX u0 s.2 ∧ -1 ≤ s.1.toInt ∧ s.1.toInt ≤ 99) (m := fun s => (s.1.toInt + 1).toNat) (P := fun w => wkX u0 w) ?_ F _ ?_ ?_) (fun _ q => q)
  · rintro ⟨c, w⟩ ⟨h0, h1, h2⟩
    dsimp only at h0 h1 h2 ⊢
    unfold g_X1_dropFrom_l7
    refine tt_if (fun _ => tt_r h0) (fun h3 => tt_ob z_has1 (fun r hr => tt_if (fun _ => tt_r h0) (fun q => tt_ck (hr q) (tt_if (fun _ => tt_r h0) (fun _ => tt_lt (tt_l ?_))))))
    have h4 : 0 ≤ c.toInt := (hr q).1
    have := t_d1 (x := c) (by omega)
    exact ⟨⟨wx_b h0 (by omega) (tb_C ho) h4 (by omega), by dsimp only; omega⟩, by dsimp only; omega⟩
  · dsimp only
    omega
  · dsimp only
    exact ⟨h, by omega⟩
theorem k_dropAbove (h : wkX u0 u) (ho : isRn o) (hF : 10000 < F) : Tt (g_X2_dropAbove F (o + 28) x u) (fun w => wkX u0 w) := by
  have hg := rn_ge ho
  have hb := b_H h ho
  have hs := t_s1 (x := rF u (o + 28) 1) (by omega)
  unfold g_X2_dropAbove
  refine tt_b (tt_lp (I := fun s => wkX u0 s.2 ∧ -1 ≤ s.1.toInt ∧ s.1.toInt ≤ 63) (m := fun s => (s.1.toInt + 1).toNat) (P := fun w => wkX u0 w) ?_ F _ ?_ ?_) (fun _ q => q)
  · rintro ⟨c, w⟩ ⟨h0, h1, h2⟩
    dsimp only at h0 h1 h2 ⊢
    unfold g_X2_dropAbove_l7
    refine tt_if (fun _ => tt_r h0) (fun h3 => tt_ob z_timeOf2 (fun r hr => tt_if (fun _ => tt_r h0) (fun q => tt_lt (tt_l ?_))))
    have h4 : 0 ≤ c.toInt := by
      rw [Int32.lt_iff_toInt_lt, t_0] at h3
      omega
    have := t_d1 (x := c) (by omega)
    exact ⟨⟨wx_b h0 (by omega) (tb_H ho) h4 (by omega), by dsimp only; omega⟩, by dsimp only; omega⟩
  · dsimp only
    omega
  · dsimp only
    exact ⟨h, by omega⟩
theorem k_dropLog (h : wkX u0 u) (ho : isRn o) (hF : 10000 < F) : Tt (g_X3_dropBehind F (o + 6) x u) (fun w => wkX u0 w) := by
  have hg := rn_ge ho
  have hb := b_L h ho
  have hs := t_s1 (x := rF u (o + 6) 5) (by omega)
  unfold g_X3_dropBehind
  refine tt_b (tt_lp (I := fun s => wkX u0 s.2 ∧ -1 ≤ s.1.toInt ∧ s.1.toInt ≤ 799) (m := fun s => (s.1.toInt + 1).toNat) (P := fun w => wkX u0 w) ?_ F _ ?_ ?_) (fun _ q => q)
  · rintro ⟨c, w⟩ ⟨h0, h1, h2⟩
    dsimp only at h0 h1 h2 ⊢
    unfold g_X3_dropBehind_l7 g_X3_dropBehind_j39
    refine tt_if (fun _ => tt_r h0) (fun h3 => tt_ob z_isBehind (fun r hr => tt_if (fun _ => tt_r h0) (fun q => ?_)))
    have h4 : 0 ≤ c.toInt := (hr q).1
    have := t_d1 (x := c) (by omega)
    have fin : ∀ w', wkX u0 w' → Tt (lt1 (sF w' (o + 6) 5 c) (fun u7 => some (Sum.inl ((c + (-1)), u7)))) (PS (fun s' : Int32 × rg_U => (wkX u0 s'.2 ∧ -1 ≤ s'.1.toInt ∧ s'.1.toInt ≤ 799) ∧ (s'.1.toInt + 1).toNat < (c.toInt + 1).toNat) (fun w : rg_U => wkX u0 w)) := fun w' hw' => tt_lt (tt_l ⟨⟨wx_b hw' (by omega) (tb_L ho) h4 (by omega), by dsimp only; omega⟩, by dsimp only; omega⟩)
    exact tt_ck (hr q) (tt_if (fun _ => tt_ck (hr q) (tt_ob (k_addFirst h0) (fun w' hw' => fin w' hw'))) (fun _ => fin w h0))
  · dsimp only
    omega
  · dsimp only
    exact ⟨h, by omega⟩
theorem k_dropPuts (h : wkX u0 u) (ho : isRn o) (hF : 10000 < F) : Tt (g_X6_dropBehind F (o + 12) x u) (fun w => wkX u0 w) := by
  have hg := rn_ge ho
  have hb := b_P h ho
  have hs := t_s1 (x := rF u (o + 12) 11) (by omega)
  unfold g_X6_dropBehind
  refine tt_b (tt_lp (I := fun s => wkX u0 s.2 ∧ -1 ≤ s.1.toInt ∧ s.1.toInt ≤ 3799) (m := fun s => (s.1.toInt + 1).toNat) (P := fun w => wkX u0 w) ?_ F _ ?_ ?_) (fun _ q => q)
  · rintro ⟨c, w⟩ ⟨h0, h1, h2⟩
    dsimp only at h0 h1 h2 ⊢
    unfold g_X6_dropBehind_l7 g_X6_dropBehind_j49
    refine tt_if (fun _ => tt_r h0) (fun h3 => tt_ob z_timeOf6 (fun r hr => tt_if (fun _ => tt_r h0) (fun q => ?_)))
    have h4 : 0 ≤ c.toInt := by
      rw [Int32.lt_iff_toInt_lt, t_0] at h3
      omega
    have hi : inb c 3800 := by constructor <;> omega
    have := t_d1 (x := c) (by omega)
    have fin : ∀ w', wkX u0 w' → Tt (lt1 (sF w' (o + 12) 11 c) (fun u7 => some (Sum.inl ((c + (-1)), u7)))) (PS (fun s' : Int32 × rg_U => (wkX u0 s'.2 ∧ -1 ≤ s'.1.toInt ∧ s'.1.toInt ≤ 3799) ∧ (s'.1.toInt + 1).toNat < (c.toInt + 1).toNat) (fun w : rg_U => wkX u0 w)) := fun w' hw' => tt_lt (tt_l ⟨⟨wx_b hw' (by omega) (tb_P ho) h4 (by omega), by dsimp only; omega⟩, by dsimp only; omega⟩)
    exact tt_ck hi (tt_if (fun _ => fin w h0) (fun hp => tt_ck hi (tt_ck hi (tt_ck (z_place hp) (tt_lt (fin _ (wx_A h0 (by omega))))))))
  · dsimp only
    omega
  · dsimp only
    exact ⟨h, by omega⟩
theorem k_goBack (h : wkX u0 u) (ho : isRn o) (hF : 10000 < F) : Tt (g_X7_goBack F o x u) (fun w => wkX u0 w) := by
  have hg := rn_ge ho
  unfold g_X7_goBack
  refine tt_ob z_hasT (fun r hr => tt_if (fun _ => tt_s h) (fun q => tt_ob (k_dropLog h ho hF) (fun _ h1 => tt_ob (k_dropPuts h1 ho hF) (fun _ h2 => tt_ob (k_dropFrom h2 ho hF) (fun _ h3 => tt_ob (k_dropAbove h3 ho hF) (fun _ h4 => tt_lt (tt_lt (tt_lt (tt_s ?_)))))))))
  have hi := hr q
  exact wx_n (wx_n (wx_b h4 (by omega) (tb_9 ho) hi.1 (by have := hi.2; omega)) (by omega) (tn_10 ho)) (by omega) (tn_13 ho)
theorem k_copyRow {o0 o1 N : Nat} (h : wkX u0 u) (hj : 6 ≤ o1) (hN : N < 2 ^ 31) : Tt (g_X9_copyRow F o0 N o1 N x u) (fun w => wkX u0 w) := by
  unfold g_X9_copyRow
  have eN : (Int32.ofNat N).toInt = N := nI_toInt (n := N) hN
  have e1 : imin (Int32.ofNat N) (Int32.ofNat N) = Int32.ofNat N := by
    unfold imin
    split <;> rfl
  rw [e1]
  refine tt_if (fun _ => tt_s h) (fun h1 => tt_ck ?_ (tt_lt (tt_s (wx_up h hj))))
  have hle : (imin x (Int32.ofNat N)).toInt ≤ N := by
    unfold imin
    by_cases q : Int32.ofNat N < x
    · rw [if_pos q, eN]; omega
    · rw [if_neg q]
      rw [Int32.lt_iff_toInt_lt, eN] at q
      omega
  rw [Int32.le_iff_toInt_le, t_0] at h1
  obtain ⟨n, hn, e⟩ := t_nI (x := imin x (Int32.ofNat N)) (N := N) (by omega) hle
  rw [e]
  unfold cpok
  rw [nI_clamp (by omega), show (0 : Int32).toNatClampNeg = 0 from rfl, Nat.zero_add]
  exact ⟨⟨by decide, by decide, nI_pos (by omega)⟩, hn, hn⟩
theorem k_take5 (h : wkX u0 u) (ho : isRn o) (ho' : isRn o') (hn : o ≠ o') (hF : 10000 < F) : Tt (g_X5_takeFrom F (o + 1) (o' + 1) u) (fun w => wkX u0 w) := by
  have hd : o + 1 + 4 < o' + 1 + 1 ∨ o' + 1 + 4 < o + 1 + 1 := by
    rcases ho with rfl | rfl | rfl | rfl | rfl <;> rcases ho' with rfl | rfl | rfl | rfl | rfl <;> omega
  have hg := rn_ge ho
  obtain ⟨w, e, h0, hv⟩ := c_takeFromP (F := F) (o := o + 1) (p := o' + 1) (u := u) hd (by omega)
  refine ⟨w, e, fun p hp => by rw [h0.1]; exact h.1 p hp, fun i hi => by rw [h0.1]; exact h.2.1 i hi, fun j hj => ?_, by rw [h0.2]; exact h.2.2.2⟩
  rw [← h.2.2.1 j hj]
  funext i
  rw [hv, if_neg (by omega)]
theorem k_take1 (h : wkX u0 u) (ho : isRn o) (ho' : isRn o') : Tt (g_X1_takeFrom F (o + 24) (o' + 24) u) (fun w => wkX u0 w) := by
  have hg := rn_ge ho
  unfold g_X1_takeFrom
  refine tt_lt (tt_ob (k_copyRow (wx_b h (by omega) (tb_C ho) (b_C h ho').1 (b_C h ho').2) (by omega) (by decide)) (fun _ h1 => tt_ob (k_copyRow h1 (by omega) (by decide)) (fun _ h2 => tt_b (k_copyRow h2 (by omega) (by decide)) (fun _ q => q))))
theorem k_take2 (h : wkX u0 u) (ho : isRn o) (ho' : isRn o') : Tt (g_X2_takeFrom F (o + 28) (o' + 28) u) (fun w => wkX u0 w) := by
  have hg := rn_ge ho
  unfold g_X2_takeFrom
  refine tt_lt (tt_ob (k_copyRow (wx_b h (by omega) (tb_H ho) (b_H h ho').1 (b_H h ho').2) (by omega) (by decide)) (fun _ h1 => tt_lt (tt_lt (tt_lt (tt_s (wx_n (wx_n (wx_n h1 (by omega) (tn_H2 ho)) (by omega) (tn_H3 ho)) (by omega) (tn_H4 ho)))))))
theorem k_take3 (h : wkX u0 u) (ho : isRn o) (ho' : isRn o') : Tt (g_X3_takeFrom F (o + 6) (o' + 6) u) (fun w => wkX u0 w) := by
  have hg := rn_ge ho
  unfold g_X3_takeFrom
  refine tt_lt (tt_ob (k_copyRow (wx_b h (by omega) (tb_L ho) (b_L h ho').1 (b_L h ho').2) (by omega) (by decide)) (fun _ h1 => tt_ob (k_copyRow h1 (by omega) (by decide)) (fun _ h2 => tt_ob (k_copyRow h2 (by omega) (by decide)) (fun _ h3 => tt_ob (k_copyRow h3 (by omega) (by decide)) (fun _ h4 => tt_b (k_copyRow h4 (by omega) (by decide)) (fun _ q => q))))))
theorem k_take6 (h : wkX u0 u) (ho : isRn o) (ho' : isRn o') : Tt (g_X6_takeFrom F (o + 12) (o' + 12) u) (fun w => wkX u0 w) := by
  have hg := rn_ge ho
  unfold g_X6_takeFrom
  refine tt_lt (tt_ob (k_copyRow (wx_b h (by omega) (tb_P ho) (b_P h ho').1 (b_P h ho').2) (by omega) (by decide)) (fun _ h1 => tt_ob (k_copyRow h1 (by omega) (by decide)) (fun _ h2 => tt_ob (k_copyRow h2 (by omega) (by decide)) (fun _ h3 => tt_ob (k_copyRow h3 (by omega) (by decide)) (fun _ h4 => tt_ob (k_copyRow h4 (by omega) (by decide)) (fun _ h5 => tt_ob (k_copyRow h5 (by omega) (by decide)) (fun _ h6 => tt_ob (k_copyRow h6 (by omega) (by decide)) (fun _ h7 => tt_ob (k_copyRow h7 (by omega) (by decide)) (fun _ h8 => tt_ob (k_copyRow h8 (by omega) (by decide)) (fun _ h9 => tt_ob (k_copyRow h9 (by omega) (by decide)) (fun _ h10 => tt_b (k_copyRow h10 (by omega) (by decide)) (fun _ q => q))))))))))))
theorem k_take7 (h : wkX u0 u) (ho : isRn o) (ho' : isRn o') (hn : o ≠ o') (hF : 10000 < F) : Tt (g_X7_takeFrom F o o' x u) (fun w => wkX u0 w) := by
  have hg := rn_ge ho
  unfold g_X7_takeFrom
  refine tt_ob (k_take5 h ho ho' hn hF) (fun _ h1 => tt_ob (k_take3 h1 ho ho') (fun _ h2 => tt_ob (k_take6 h2 ho ho') (fun _ h3 => tt_ob (k_take1 h3 ho ho') (fun _ h4 => tt_ob (k_take2 h4 ho ho') (fun _ h5 => tt_lt (tt_ob (k_copyRow (wx_b h5 (by omega) (tb_9 ho) (b_9 h5 ho').1 (b_9 h5 ho').2) (by omega) (by decide)) (fun _ h6 => tt_ob (k_copyRow h6 (by omega) (by decide)) (fun _ h7 => tt_ob (k_copyRow h7 (by omega) (by decide)) (fun _ h8 => tt_ob (k_copyRow h8 (by omega) (by decide)) (fun _ h9 => tt_lt (tt_lt (tt_lt (tt_lt (tt_s (wx_n (wx_n (wx_n (wx_n h9 (by omega) (tn_10 ho)) (by omega) (tn_12 ho)) (by omega) (tn_13 ho)) (by omega) (tn_14 ho))))))))))))))))
/-! marks -/
theorem k_unmark (h : wkX u0 u) (hF : 10000 < F) : Tt (g_X6_unmarkAll F o 115 3800 u) (fun w => wkX u0 w) := by
  have eN : (Int32.ofNat 3800).toInt = 3800 := rfl
  unfold g_X6_unmarkAll
  refine tt_b (tt_lp (I := fun s => wkX u0 s.2 ∧ 0 ≤ s.1.toInt ∧ s.1.toInt ≤ 3800) (m := fun s => (3800 - s.1.toInt).toNat) (P := fun w => wkX u0 w) ?_ F _ ?_ ?_) (fun _ q => q)
  · rintro ⟨c, w⟩ ⟨h0, h1, h2⟩
    dsimp only at h0 h1 h2 ⊢
    unfold g_X6_unmarkAll_l2
    refine tt_if (fun _ => tt_r h0) (fun _ => tt_if (fun _ => tt_r h0) (fun h3 => ?_))
    rw [Int32.le_iff_toInt_le, eN] at h3
    have hi : inb c 3800 := by constructor <;> omega
    have := t_a1 (x := c) (by omega)
    exact tt_ck hi (tt_lt (tt_l ⟨⟨wx_Z h0 (by decide), by dsimp only; omega⟩, by dsimp only; omega⟩))
  · dsimp only
    rw [t_0]
    omega
  · dsimp only
    rw [t_0]
    exact ⟨h, by omega⟩
theorem k_mark (h : wkX u0 u) : Tt (g_X6_mark F o 115 3800 x u) (fun w => wkX u0 w) := by
  unfold g_X6_mark
  exact tt_ob z_has6 (fun r hr => tt_if (fun _ => tt_s h) (fun q => tt_if (fun _ => tt_s h) (fun _ => tt_ck (hr q) (tt_lt (tt_s (wx_Z h (by decide)))))))
theorem k_markBelow (h : wkX u0 u) (ho : isRn o) (hF : 10000 < F) : Tt (g_X6_markAllBelow F (o + 12) x 115 3800 u) (fun w => wkX u0 w) := by
  unfold g_X6_markAllBelow
  refine tt_ob (k_unmark h hF) (fun _ h1 => tt_ob (k_mark h1) (fun w2 h2 => tt_b (tt_lp (I := fun s => wkX u0 s.2 ∧ s.1.toInt ≤ 3799) (m := fun s => (s.1.toInt + 1).toNat) (P := fun w => wkX u0 w) ?_ F _ ?_ ?_) (fun _ q => q)))
  · rintro ⟨c, w⟩ ⟨h0, h3⟩
    dsimp only at h0 h3 ⊢
    unfold g_X6_markAllBelow_l22
    refine tt_if (fun _ => tt_r h0) (fun h4 => ?_)
    rw [Int32.lt_iff_toInt_lt, t_0] at h4
    have hi : inb c 3800 := by constructor <;> omega
    have := t_d1 (x := c) (by omega)
    have fin : ∀ w', wkX u0 w' → Tt (g_X6_markAllBelow_j56 F (o + 12) 115 3800 c w') (PS (fun s' : Int32 × rg_U => (wkX u0 s'.2 ∧ s'.1.toInt ≤ 3799) ∧ (s'.1.toInt + 1).toNat < (c.toInt + 1).toNat) (fun w : rg_U => wkX u0 w)) := fun w' hw' => tt_l ⟨⟨hw', by dsimp only; omega⟩, by dsimp only; omega⟩
    exact tt_ob (z_isMarked (by decide)) (fun _ _ => tt_if (fun _ => fin _ h0) (fun _ => tt_ck hi (tt_ob (k_mark h0) (fun _ h5 => tt_ck hi (tt_ob (k_mark h5) (fun _ h6 => fin _ h6))))))
  all_goals
    have hb := b_P h2 ho
    have hs := t_s1 (x := rF w2 (o + 12) 11) (by omega)
    have hm : (imin x (rF w2 (o + 12) 11 - 1)).toInt ≤ 3799 := by
      unfold imin
      by_cases q : rF w2 (o + 12) 11 - 1 < x
      · rw [if_pos q]; omega
      · rw [if_neg q]
        rw [Int32.lt_iff_toInt_lt] at q
        omega
    dsimp only
  · omega
  · exact ⟨h2, hm⟩
theorem k_markAbove (h : wkX u0 u) (hF : 10000 < F) : Tt (g_X6_markAllAbove F o x 115 3800 u) (fun w => wkX u0 w) := by
  unfold g_X6_markAllAbove
  refine tt_ob (k_unmark h hF) (fun w1 h1 => tt_b (tt_lp (I := fun s => wkX u0 s.2 ∧ 0 ≤ s.1.toInt ∧ s.1.toInt ≤ 3800) (m := fun s => (3800 - s.1.toInt).toNat) (P := fun w => wkX u0 w) ?_ F _ ?_ ?_) (fun _ q => q))
  · rintro ⟨c, w⟩ ⟨h0, h3, h4⟩
    dsimp only at h0 h3 h4 ⊢
    unfold g_X6_markAllAbove_l7
    refine tt_if (fun _ => tt_r h0) (fun _ => tt_if (fun _ => tt_r h0) (fun h5 => ?_))
    rw [Int32.le_iff_toInt_le, t_3800] at h5
    have hi : inb c 3800 := by constructor <;> omega
    have := t_a1 (x := c) (by omega)
    have j64 : ∀ w', wkX u0 w' → Tt (g_X6_markAllAbove_j64 F o 115 3800 x c w') (PS (fun s' : Int32 × rg_U => (wkX u0 s'.2 ∧ 0 ≤ s'.1.toInt ∧ s'.1.toInt ≤ 3800) ∧ (3800 - s'.1.toInt).toNat < (3800 - c.toInt).toNat) (fun w : rg_U => wkX u0 w)) := fun w' hw' => tt_l ⟨⟨hw', by dsimp only; omega⟩, by dsimp only; omega⟩
    have j58 : Tt (g_X6_markAllAbove_j58 F o 115 3800 x c w) (PS (fun s' : Int32 × rg_U => (wkX u0 s'.2 ∧ 0 ≤ s'.1.toInt ∧ s'.1.toInt ≤ 3800) ∧ (3800 - s'.1.toInt).toNat < (3800 - c.toInt).toNat) (fun w : rg_U => wkX u0 w)) := by
      unfold g_X6_markAllAbove_j58
      exact tt_ob (k_mark h0) (fun _ h6 => j64 _ h6)
    exact tt_ck hi (tt_if (fun _ => j58) (fun _ => tt_ck hi (tt_ob (z_isMarked (by decide)) (fun _ _ => tt_if (fun _ => tt_ck hi (tt_ob (z_isMarked (by decide)) (fun _ _ => tt_if (fun _ => j64 _ h0) (fun _ => j58)))) (fun _ => j58)))))
  · dsimp only
    rw [t_0]
    omega
  · dsimp only
    rw [t_0]
    exact ⟨h1, by omega⟩
/-! two runs -/
theorem tt_row {α : Type} {f : Nat → Option α} {P : α → Prop} (hG : wkG u0) (h : wkX u0 u) (hx : inb x 101) (k : ∀ r, isRw r → Tt (f r) P) : Tt (om (rQ u 9 x) none (fun r => ck (isRw r) (f r))) P := by
  obtain ⟨n, hn, e⟩ := t_nI (x := x) (N := 100) hx.1 (by have := hx.2; omega)
  have e2 : rQ u 9 x = some (10 + n) := by
    unfold rQ
    rw [h.2.2.2, e, nI_clamp (by omega)]
    exact hG.2.2 n (by omega)
  have hr : isRw (10 + n) := ⟨by omega, by omega⟩
  rw [e2, om_i]
  exact tt_ck hr (k _ hr)
theorem k_pairs37 {l4 l5 : Int32} (hG : wkG u0) (h : wkX u0 u) (h5 : 0 ≤ l5.toInt ∧ l5.toInt ≤ 99) (h4 : 0 ≤ l4.toInt ∧ l4.toInt ≤ 100) (hF : 10000 < F) : Tt (lp (fun (s : (Int32 × rg_U)) => g_X0_countPairs_l37 F o o' l4 l5 s.1 s.2) F (l4 - 1, u)) (fun w => wkX u0 w) := by
  have hs := t_s1 (x := l4) (by omega)
  have h51 := t_a1 (x := l5) (by omega)
  have i5 : inb l5 101 := by constructor <;> omega
  have i51 : inb (l5 + 1) 101 := by constructor <;> omega
  refine tt_lp (I := fun s => wkX u0 s.2 ∧ -1 ≤ s.1.toInt ∧ s.1.toInt ≤ 99) (m := fun s => (s.1.toInt + 1).toNat) (P := fun w => wkX u0 w) ?_ F _ ?_ ?_
  · rintro ⟨c, w⟩ ⟨h0, h1, h2⟩
    dsimp only at h0 h1 h2 ⊢
    unfold g_X0_countPairs_l37
    refine tt_if (fun _ => tt_r h0) (fun h3 => ?_)
    rw [Int32.lt_iff_toInt_lt, t_0] at h3
    have hc1 := t_a1 (x := c) (by omega)
    have hcd := t_d1 (x := c) (by omega)
    have ic : inb c 101 := by constructor <;> omega
    have ic1 : inb (c + 1) 101 := by constructor <;> omega
    have fin : ∀ p q, Tt (g_X0_countPairs_j103 F o o' l4 l5 c p q w) (PS (fun s' : Int32 × rg_U => (wkX u0 s'.2 ∧ -1 ≤ s'.1.toInt ∧ s'.1.toInt ≤ 99) ∧ (s'.1.toInt + 1).toNat < (c.toInt + 1).toNat) (fun w : rg_U => wkX u0 w)) := fun p q => by
      unfold g_X0_countPairs_j103
      exact tt_ck i5 (tt_row hG h0 i5 (fun r hr => tt_ck ic (tt_lt (tt_l ⟨⟨wx_A h0 (by have := hr.1; omega), by dsimp only; omega⟩, by dsimp only; omega⟩))))
    exact tt_ck i51 (tt_row hG h0 i51 (fun r hr => tt_ck ic (tt_ck i5 (tt_row hG h0 i5 (fun r2 hr2 => tt_ck ic1 (tt_ob z_isLike (fun _ _ => tt_if (fun _ => fin _ _) (fun _ => tt_ck i51 (tt_row hG h0 i51 (fun r3 hr3 => tt_ck ic1 (fin _ _)))))))))))
  · dsimp only
    omega
  · dsimp only
    exact ⟨h, by omega⟩
theorem k_countPairs (hG : wkG u0) (h : wkX u0 u) (h2 : 0 ≤ x.toInt ∧ x.toInt ≤ 100) (h4 : 0 ≤ y.toInt ∧ y.toInt ≤ 100) (hF : 10000 < F) : Tt (g_X0_countPairs F o x o' y u) (fun w => wkX u0 w) := by
  have hs := t_s1 (x := x) (by omega)
  have ix : inb x 101 := by constructor <;> omega
  have iy : inb y 101 := by constructor <;> omega
  unfold g_X0_countPairs
  refine tt_ck ix (tt_row hG h ix (fun r hr => tt_ob (Q := fun w => wkX u0 w) ⟨_, g_fill_eq (by decide) (by omega), wx_up h (by have := hr.1; omega)⟩ (fun w1 hw1 => tt_b (tt_lp (I := fun s => wkX u0 s.2 ∧ -1 ≤ s.1.toInt ∧ s.1.toInt ≤ 99) (m := fun s => (s.1.toInt + 1).toNat) (P := fun w => wkX u0 w) ?_ F _ ?_ ?_) (fun _ q => q))))
  · rintro ⟨c, w⟩ ⟨h0, h1, h3⟩
    dsimp only at h0 h1 h3 ⊢
    unfold g_X0_countPairs_l15
    refine tt_if (fun _ => tt_r h0) (fun h5 => ?_)
    rw [Int32.lt_iff_toInt_lt, t_0] at h5
    have hcd := t_d1 (x := c) (by omega)
    have ic : inb c 101 := by constructor <;> omega
    exact tt_ck ic (tt_row hG h0 ic (fun r2 hr2 => tt_ck iy (tt_lt (tt_ob (k_pairs37 hG (wx_A h0 (by have := hr2.1; omega)) (by omega) h4 hF) (fun w' hw' => tt_l ⟨⟨hw', by dsimp only; omega⟩, by dsimp only; omega⟩)))))
  · dsimp only
    omega
  · dsimp only
    exact ⟨hw1, by omega⟩
theorem k_choosePairs (hG : wkG u0) (h : wkX u0 u) (h2 : 0 ≤ x.toInt ∧ x.toInt ≤ 100) (h4 : 0 ≤ y.toInt ∧ y.toInt ≤ 100) (hF : 10000 < F) : Tt (g_X0_choosePairs F o x o' y u) (fun w => wkX u0 w) := by
  unfold g_X0_choosePairs
  refine tt_lt (tt_b (tt_lp (I := fun s => wkX u0 s.2.2 ∧ (0 ≤ s.1.toInt ∧ s.1.toInt ≤ 100) ∧ (0 ≤ s.2.1.toInt ∧ s.2.1.toInt ≤ 100) ∧ 0 ≤ (rF s.2.2 8 3).toInt) (m := fun s => (100 - s.2.1.toInt).toNat) (P := fun w => wkX u0 w) ?_ F _ ?_ ?_) (fun _ q => q))
  · rintro ⟨a, c, w⟩ ⟨h0, h1, h3, h5⟩
    dsimp only at h0 h1 h3 h5 ⊢
    unfold g_X0_choosePairs_l11
    refine tt_if (fun _ => tt_r h0) (fun h6 => tt_if (fun _ => tt_r h0) (fun h7 => ?_))
    rw [Int32.le_iff_toInt_le] at h6
    rw [Int32.le_iff_toInt_le, t_100] at h7
    have hc1 := t_a1 (x := c) (by omega)
    have ic : inb c 101 := by constructor <;> omega
    have ic1 : inb (c + 1) 101 := by constructor <;> omega
    have ia : inb a 101 := by constructor <;> omega
    have ip : inb (rF w 8 3) 100 := by constructor <;> omega
    have hp1 := t_a1 (x := rF w 8 3) (by omega)
    refine tt_ob (tt_lp (I := fun s => 0 ≤ s.toInt ∧ s.toInt ≤ 100) (m := fun s => (100 - s.toInt).toNat) (P := fun s => 0 ≤ s.toInt ∧ s.toInt ≤ 100) ?_ F _ ?_ ?_) (fun r hr => ?_)
    · intro d hd
      unfold g_X0_choosePairs_l30
      refine tt_if (fun _ => tt_r hd) (fun h8 => ?_)
      rw [Int32.le_iff_toInt_le] at h8
      have hd1 := t_a1 (x := d) (by omega)
      have id1 : inb (d + 1) 101 := by constructor <;> omega
      have fin : Tt (g_X0_choosePairs_j78 F o o' x y a c d w) (PS (fun s' : Int32 => (0 ≤ s'.toInt ∧ s'.toInt ≤ 100) ∧ (100 - s'.toInt).toNat < (100 - d.toInt).toNat) (fun s : Int32 => 0 ≤ s.toInt ∧ s.toInt ≤ 100)) := tt_l (by omega)
      exact tt_ob z_isLike (fun _ _ => tt_if (fun _ => fin) (fun _ => tt_ck ic1 (tt_row hG h0 ic1 (fun r hr => tt_ck id1 (tt_ck ic (tt_row hG h0 ic (fun r2 hr2 => tt_ck ia (tt_if (fun _ => tt_r hd) (fun _ => fin)))))))))
    · omega
    · exact h1
    · unfold g_X0_choosePairs_j84
      have fin : ∀ (a' : Int32) (w' : rg_U), wkX u0 w' → (0 ≤ a'.toInt ∧ a'.toInt ≤ 100) → 0 ≤ (rF w' 8 3).toInt → Tt (g_X0_choosePairs_j129 F o o' x y a' c w') (PS (fun s' : Int32 × Int32 × rg_U => (wkX u0 s'.2.2 ∧ (0 ≤ s'.1.toInt ∧ s'.1.toInt ≤ 100) ∧ (0 ≤ s'.2.1.toInt ∧ s'.2.1.toInt ≤ 100) ∧ 0 ≤ (rF s'.2.2 8 3).toInt) ∧ (100 - s'.2.1.toInt).toNat < (100 - c.toInt).toNat) (fun w : rg_U => wkX u0 w)) := fun a' w' hw' ha' hp' => tt_l ⟨⟨hw', ha', by dsimp only; omega, hp'⟩, by dsimp only; omega⟩
      refine tt_if (fun _ => fin _ _ h0 h1 h5) (fun h9 => ?_)
      rw [Int32.le_iff_toInt_le] at h9
      have hr1 := t_a1 (x := r) (by omega)
      refine tt_ck ip (tt_lt (tt_ck ip (tt_lt (tt_lt (fin _ _ (wx_n (wx_A (wx_A h0 (by decide)) (by decide)) (by decide) (by decide)) (by omega) ?_)))))
      show 0 ≤ (rF w 8 3 + 1).toInt
      omega
  · dsimp only
    rw [t_0]
    omega
  · dsimp only
    exact ⟨wx_n h (by decide) (by decide), by rw [t_0]; omega, by rw [t_0]; omega, by show 0 ≤ (0 : Int32).toInt; decide⟩
theorem t_imin {N : Int} (hx : 0 ≤ x.toInt) (hy : 0 ≤ y.toInt) (hN : y.toInt ≤ N) : 0 ≤ (imin x y).toInt ∧ (imin x y).toInt ≤ N := by
  unfold imin
  by_cases q : y < x
  · rw [if_pos q]; exact ⟨hy, hN⟩
  · rw [if_neg q]
    rw [Int32.lt_iff_toInt_lt] at q
    exact ⟨hx, by omega⟩
theorem k_lay (hG : wkG u0) (h : wkX u0 u) (ho : isRn o) (ho' : isRn o') (hF : 10000 < F) : Tt (g_X0_lay F (o + 24) (o' + 24) u) (fun w => wkX u0 w) := by
  have h1 := t_imin (x := rF u (o + 24) 3) (y := 100) (N := 100) (b_C h ho).1 (by decide) (by decide)
  have h2 := t_imin (x := rF u (o' + 24) 3) (y := 100) (N := 100) (b_C h ho').1 (by decide) (by decide)
  unfold g_X0_lay
  exact tt_ob (k_countPairs hG h h1 h2 hF) (fun _ h3 => tt_b (k_choosePairs hG h3 h1 h2 hF) (fun _ q => q))
theorem k_goThrough {p : Nat} (h : wkX u0 u) (ho : isRn o) (hp : 6 ≤ p) (hx : 0 ≤ x.toInt ∧ x.toInt ≤ 3800) (hF : 10000 < F) : Tt (g_X0_goThrough F (o + 12) x y p 40 u) (fun z => wkX u0 z.2 ∧ 0 ≤ z.1.toInt ∧ z.1.toInt ≤ 3800) := by
  have eN : (Int32.ofNat 40).toInt = 40 := rfl
  unfold g_X0_goThrough
  refine tt_b (tt_lp (I := fun s => wkX u0 s.2 ∧ 0 ≤ s.1.toInt ∧ s.1.toInt ≤ 3800) (m := fun s => (3800 - s.1.toInt).toNat) (P := fun z => wkX u0 z.2 ∧ 0 ≤ z.1.toInt ∧ z.1.toInt ≤ 3800) ?_ F _ ?_ ?_) (fun _ q => q)
  · rintro ⟨c, w⟩ ⟨h0, h1, h2⟩
    dsimp only at h0 h1 h2 ⊢
    have hb := b_P h0 ho
    unfold g_X0_goThrough_l3
    refine tt_if (fun _ => tt_r ⟨h0, h1, h2⟩) (fun h3 => ?_)
    rw [Int32.le_iff_toInt_le] at h3
    have := t_a1 (x := c) (by omega)
    have fin : ∀ w', wkX u0 w' → Tt (g_X0_goThrough_j48 F (o + 12) p 40 y c w') (PS (fun s' : Int32 × rg_U => (wkX u0 s'.2 ∧ 0 ≤ s'.1.toInt ∧ s'.1.toInt ≤ 3800) ∧ (3800 - s'.1.toInt).toNat < (3800 - c.toInt).toNat) (fun z : Int32 × rg_U => wkX u0 z.2 ∧ 0 ≤ z.1.toInt ∧ z.1.toInt ≤ 3800)) := fun w' hw' => tt_l ⟨⟨hw', by dsimp only; omega⟩, by dsimp only; omega⟩
    refine tt_ob z_timeOf6 (fun _ _ => tt_if (fun _ => tt_r ⟨h0, h1, h2⟩) (fun _ => tt_ob z_placeOf (fun r _ => tt_if (fun _ => fin _ h0) (fun h4 => tt_if (fun _ => fin _ h0) (fun h5 => tt_ck ?_ (tt_lt (fin _ (wx_A h0 hp))))))))
    rw [Int32.lt_iff_toInt_lt, t_0] at h4
    rw [Int32.le_iff_toInt_le, eN] at h5
    constructor <;> omega
  · dsimp only
    omega
  · exact ⟨h, hx⟩
theorem k_areUnlike {p1 p2 p3 : Nat} (hx : 0 ≤ x.toInt ∧ x.toInt ≤ 3800) (hy : 0 ≤ y.toInt ∧ y.toInt ≤ 3800) (hF : 10000 < F) : Tt (g_X0_areUnlike F p1 x y p2 p3 u) (fun _ => True) := by
  unfold g_X0_areUnlike
  refine tt_ob (tt_lp (I := fun s => 0 ≤ s.toInt ∧ s.toInt ≤ 3800) (m := fun s => (3800 - s.toInt).toNat) (P := fun _ => True) ?_ F _ ?_ ?_) (fun r _ => tt_os (fun _ _ => tt_s trivial) (fun _ _ => tt_s trivial))
  · intro c hc
    unfold g_X0_areUnlike_l3
    refine tt_if (fun _ => tt_r trivial) (fun h3 => ?_)
    rw [Int32.le_iff_toInt_le] at h3
    have := t_a1 (x := c) (by omega)
    have fin : Tt (g_X0_areUnlike_j65 F p1 p2 p3 y c u) (PS (fun s' : Int32 => (0 ≤ s'.toInt ∧ s'.toInt ≤ 3800) ∧ (3800 - s'.toInt).toNat < (3800 - c.toInt).toNat) (fun _ : Unit ⊕ Unit => True)) := tt_l (by omega)
    exact tt_ob z_placeOf (fun r _ => tt_if (fun _ => fin) (fun hp => tt_ck (z_place hp) (tt_ck (z_place hp) (tt_ob z_sortOf (fun _ _ => tt_ob z_numberOf (fun _ _ => tt_ob z_hasValue (fun _ _ => tt_if (fun _ => tt_r trivial) (fun _ => fin))))))))
  · try dsimp only
    omega
  · exact hx
theorem k_firstUnlike (h : wkX u0 u) (ho : isRn o) (ho' : isRn o') (hF : 10000 < F) : Tt (g_X0_firstUnlike F o o' u) (fun z => wkX u0 z.2) := by
  unfold g_X0_firstUnlike
  refine tt_ob (Q := fun w => wkX u0 w) ⟨_, g_fill_eq (by decide) (by omega), wx_up h (by decide)⟩ (fun w1 h1 => tt_ob (Q := fun w => wkX u0 w) ⟨_, g_fill_eq (by decide) (by omega), wx_up h1 (by decide)⟩ (fun w2 h2 => ?_))
  have hm := t_imin (x := rF w2 o 9) (y := rF w2 o' 9) (N := 3000) (b_9 h2 ho).1 (b_9 h2 ho').1 (b_9 h2 ho').2
  refine tt_ob (tt_lp (I := fun s => wkX u0 s.2.2.2 ∧ (0 ≤ s.1.toInt ∧ s.1.toInt ≤ 3800) ∧ (0 ≤ s.2.1.toInt ∧ s.2.1.toInt ≤ 3800) ∧ (0 ≤ s.2.2.1.toInt ∧ s.2.2.1.toInt ≤ 3001)) (m := fun s => (3001 - s.2.2.1.toInt).toNat) (P := fun r => (∀ a, r = Sum.inl a → wkX u0 a.2) ∧ ∀ a, r = Sum.inr a → wkX u0 a) ?_ F _ ?_ ?_) (fun r hr => tt_os (fun a ha => tt_s (hr.1 a ha)) (fun a ha => tt_s (hr.2 a ha)))
  · rintro ⟨a, c, t, w⟩ ⟨h0, ha, hc, ht⟩
    dsimp only at h0 ha hc ht ⊢
    unfold g_X0_firstUnlike_l37
    refine tt_if (fun _ => tt_r ⟨fun a q => (by cases q), fun a q => (by cases q; exact h0)⟩) (fun h3 => ?_)
    rw [Int32.lt_iff_toInt_lt] at h3
    have h4 := t_a1 (x := t) (by omega)
    refine tt_ob (k_goThrough h0 ho (by decide) ha hF) (fun r1 hr1 => tt_ob (k_goThrough hr1.1 ho' (by decide) hc hF) (fun r2 hr2 => ?_))
    have ex : Tt (some (Sum.inr (Sum.inl (t, r2.2))) : Option ((Int32 × Int32 × Int32 × rg_U) ⊕ ((Int32 × rg_U) ⊕ rg_U))) (PS (fun s' : Int32 × Int32 × Int32 × rg_U => (wkX u0 s'.2.2.2 ∧ (0 ≤ s'.1.toInt ∧ s'.1.toInt ≤ 3800) ∧ (0 ≤ s'.2.1.toInt ∧ s'.2.1.toInt ≤ 3800) ∧ (0 ≤ s'.2.2.1.toInt ∧ s'.2.2.1.toInt ≤ 3001)) ∧ (3001 - s'.2.2.1.toInt).toNat < (3001 - t.toInt).toNat) (fun r : (Int32 × rg_U) ⊕ rg_U => (∀ a, r = Sum.inl a → wkX u0 a.2) ∧ ∀ a, r = Sum.inr a → wkX u0 a)) := tt_r ⟨fun a q => (by cases q; exact hr2.1), fun a q => (by cases q)⟩
    exact tt_ob z_counterAt (fun _ _ => tt_ob z_counterAt (fun _ _ => tt_if (fun _ => tt_ob (z_stackLike hF) (fun _ _ => tt_if (fun _ => ex) (fun _ => tt_ob (k_areUnlike ha hr1.2 hF) (fun _ _ => tt_if (fun _ => tt_ob (k_areUnlike hc hr2.2 hF) (fun _ _ => tt_if (fun _ => tt_l ⟨⟨hr2.1, hr1.2, hr2.2, by dsimp only; omega⟩, by dsimp only; omega⟩) (fun _ => ex))) (fun _ => ex))))) (fun _ => ex)))
  · dsimp only
    rw [t_0]
    omega
  · dsimp only
    rw [t_0]
    exact ⟨h2, by omega, by omega, by omega⟩
end WKN
end W_54
