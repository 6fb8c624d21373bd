/-! the class: every call returns (what changes a run) -/
theorem t_nI {x : Int32} {N : Nat} (h0 : 0 ≤ x.toInt) (h1 : x.toInt ≤ N) : ∃ n, n ≤ N ∧ x = nI n := by
  obtain ⟨n, hn, e⟩ := nI_of (x := x) (by rw [Int32.lt_iff_toInt_lt, t_0]; omega)
  have := nI_toInt hn
  rw [← e] at this
  exact ⟨n, by omega, e⟩
section WKM
variable {F o j s : Nat} {x y z v i a b c d e : Int32} {u0 u w : rg_U}
theorem wx_O (h : wkX u0 u) : ∃ a n, okO9 u a n := by
  obtain ⟨a, ha, e1⟩ := t_nI (x := rF u 6 1) (N := 899) (b_a h).1 (b_a h).2
  obtain ⟨n, hn, e2⟩ := t_nI (x := rF u 6 2) (N := 900) (b_w h).1 (b_w h).2
  exact ⟨a, n, e1, e2, by omega, hn⟩
theorem wx_61 {n : Nat} (h : wkX u0 u) (hn : n ≤ 899) : wkX u0 (sF u 6 1 (nI n)) := wx_b (b := 899) h (by decide) (by decide) (by rw [nI_toInt (by omega)]; omega) (by rw [nI_toInt (by omega)]; omega)
theorem wx_62 {n : Nat} (h : wkX u0 u) (hn : n ≤ 900) : wkX u0 (sF u 6 2 (nI n)) := wx_b (b := 900) h (by decide) (by decide) (by rw [nI_toInt (by omega)]; omega) (by rw [nI_toInt (by omega)]; omega)
theorem k_addFirst (h : wkX u0 u) : Tt (g_X4_addFirst F x u) (fun w => wkX u0 w) := by
  obtain ⟨a, n, ho⟩ := wx_O h
  by_cases q : n = 900
  · subst q
    unfold g_X4_addFirst
    rw [ho.2.1, if_pos (by decide)]
    exact tt_s h
  · have hn := ho.2.2.2
    obtain ⟨w, e, -, -, -, hw⟩ := c_addFirst (F := F) (x := x) ho (by omega)
    refine ⟨w, e, ?_⟩
    rw [hw]
    exact wx_62 (wx_R (wx_61 h (by omega)) (by decide)) (by omega)
theorem k_addLast (h : wkX u0 u) : Tt (g_X4_addLast F x u) (fun w => wkX u0 w) := by
  obtain ⟨a, n, ho⟩ := wx_O h
  by_cases q : n = 900
  · subst q
    unfold g_X4_addLast
    rw [ho.2.1, if_pos (by decide)]
    exact tt_s h
  · have hn := ho.2.2.2
    obtain ⟨w, e, -, hw, -, -⟩ := c_addLast (F := F) (x := x) ho (by omega)
    refine ⟨w, e, ?_⟩
    rw [hw]
    exact wx_62 (wx_R h (by decide)) (by omega)
theorem k_takeFirst (h : wkX u0 u) : Tt (g_X4_takeFirst F u) (fun z => wkX u0 z.2) := by
  obtain ⟨a, n, ho⟩ := wx_O h
  cases n with
  | zero =>
    unfold g_X4_takeFirst
    rw [ho.2.1, if_neg (by decide)]
    exact tt_s h
  | succ n =>
    have hn := ho.2.2.2
    obtain ⟨w, e, hw, -, -⟩ := c_takeFirst (F := F) ho
    refine ⟨_, e, ?_⟩
    rw [hw]
    exact wx_62 (wx_61 h (by omega)) (by omega)
theorem k_draw (h : wkX u0 u) : Tt (g_X4_draw F x u) (fun z => wkX u0 z.2) := by
  have h3 : ∀ v, wkX u0 (sF u 6 3 v) := fun v => wx_n h (by decide) (by decide)
  unfold g_X4_draw
  exact tt_lt (tt_if (fun h1 => tt_ck (fun h0 => by rw [h0] at h1; exact absurd h1 (by decide)) (tt_s (h3 _))) (fun _ => tt_s (h3 _)))
theorem k_add3 (h : wkX u0 u) (ho : isRn o) : Tt (g_X3_add F (o + 6) a b c d e u) (fun w => wkX u0 w) := by
  have hg := rn_ge ho
  unfold g_X3_add
  refine tt_if (fun _ => tt_s h) (fun h1 => tt_if (fun _ => tt_s h) (fun h2 => ?_))
  have hi : inb (rF u (o + 6) 5) 800 := (by (try simp only [inb, Int32.lt_iff_toInt_lt, Int32.le_iff_toInt_le, t_m1, t_0, t_1, t_2, t_4, t_8, t_10, t_18, t_23, t_32, t_40, t_64, t_100, t_500, t_800, t_900, t_3000, t_3800] at *) <;> omega)
  have ht := t_a1 (x := rF u (o + 6) 5) (by have := hi.2; omega)
  have hi1 := hi.1
  have hi2 := hi.2
  exact tt_ck hi (tt_lt (tt_ck hi (tt_lt (tt_ck hi (tt_lt (tt_ck hi (tt_lt (tt_ck hi (tt_lt (tt_lt (tt_s (wx_b (wx_A (wx_A (wx_A (wx_A (wx_A h (by omega)) (by omega)) (by omega)) (by omega)) (by omega)) (by omega) (tb_L ho) (by show 0 ≤ (rF u (o + 6) 5 + 1).toInt; omega) (by show (rF u (o + 6) 5 + 1).toInt ≤ 800; omega)))))))))))))
theorem k_add1 (h : wkX u0 u) (ho : isRn o) : Tt (g_X1_add F (o + 24) a b c u) (fun w => wkX u0 w) := by
  have hg := rn_ge ho
  unfold g_X1_add
  refine tt_if (fun _ => tt_s h) (fun h1 => tt_if (fun _ => tt_s h) (fun h2 => ?_))
  have hi : inb (rF u (o + 24) 3) 100 := (by (try simp only [inb, Int32.lt_iff_toInt_lt, Int32.le_iff_toInt_le, t_m1, t_0, t_1, t_2, t_4, t_8, t_10, t_18, t_23, t_32, t_40, t_64, t_100, t_500, t_800, t_900, t_3000, t_3800] at *) <;> omega)
  have ht := t_a1 (x := rF u (o + 24) 3) (by have := hi.2; omega)
  have hi1 := hi.1
  have hi2 := hi.2
  exact tt_ck hi (tt_lt (tt_ck hi (tt_lt (tt_ck hi (tt_lt (tt_lt (tt_s (wx_b (wx_A (wx_A (wx_A h (by omega)) (by omega)) (by omega)) (by omega) (tb_C ho) (by show 0 ≤ (rF u (o + 24) 3 + 1).toInt; omega) (by show (rF u (o + 24) 3 + 1).toInt ≤ 100; omega)))))))))
theorem k_add6 (h : wkX u0 u) (ho : isRn o) : Tt (g_X6_add F (o + 12) x y z v u) (fun r => wkX u0 r.2 ∧ (r.1 = 0 ∨ r.1 = 1)) := by
  have hg := rn_ge ho
  unfold g_X6_add
  refine tt_if (fun _ => tt_s ⟨h, Or.inl rfl⟩) (fun hp => tt_if (fun _ => tt_s ⟨h, Or.inl rfl⟩) (fun h1 => tt_if (fun h2 => ?_) (fun _ => tt_s ⟨h, Or.inl rfl⟩)))
  have hpl := z_place hp
  have hi : inb (rF u (o + 12) 11) 3800 := by
    clear hp hpl
    (try simp only [inb, Int32.lt_iff_toInt_lt, Int32.le_iff_toInt_le, t_m1, t_0, t_1, t_2, t_4, t_8, t_10, t_18, t_23, t_32, t_40, t_64, t_100, t_500, t_800, t_900, t_3000, t_3800] at *) <;> omega
  have ht := t_a1 (x := rF u (o + 12) 11) (by have := hi.2; omega)
  have hi1 := hi.1
  have hi2 := hi.2
  have j118 : ∀ (w : rg_U) (l5 l6 s0 s1 s2 : Int32), wkX u0 w → rF w (o + 12) 11 = rF u (o + 12) 11 → s2 = rF u (o + 12) 11 → (l6 = 0 ∨ l6 = 1) → Tt (g_X6_add_j118 F (o + 12) y l5 l6 s0 s1 s2 w) (fun r => wkX u0 r.2 ∧ (r.1 = 0 ∨ r.1 = 1)) := by
    intro w l5 l6 s0 s1 s2 hw ew e2 h6
    subst e2
    unfold g_X6_add_j118
    have hiw : inb (rF w (o + 12) 11) 3800 := by rw [ew]; exact hi
    refine tt_ck hi (tt_lt (tt_ck hiw (tt_lt (tt_ck hpl (tt_lt (tt_lt (tt_ck h6 (tt_s ⟨wx_b (wx_A (wx_A (wx_A hw (by omega)) (by omega)) (by omega)) (by omega) (tb_P ho) ?_ ?_, h6⟩))))))))
    · show 0 ≤ (rF w (o + 12) 11 + 1).toInt
      rw [ew]; omega
    · show (rF w (o + 12) 11 + 1).toInt ≤ 3800
      rw [ew]; omega
  have j51 : ∀ (l5 s0 : Int32), (s0 = 0 ∨ s0 = 1) → Tt (g_X6_add_j51 F (o + 12) x y z v l5 s0 u) (fun r => wkX u0 r.2 ∧ (r.1 = 0 ∨ r.1 = 1)) := by
    intro l5 s0 h0
    unfold g_X6_add_j51
    have hw : ∀ i1 i2 i3 i4, wkX u0 (sA (sA (sA (sA u (o + 12 + 1) i1 x) (o + 12 + 2) i2 y) (o + 12 + 3) i3 z) (o + 12 + 4) i4 v) := fun _ _ _ _ => wx_A (wx_A (wx_A (wx_A h (by omega)) (by omega)) (by omega)) (by omega)
    exact tt_ck hi (tt_lt (tt_ck hi (tt_lt (tt_ck hi (tt_lt (tt_ck hi (tt_lt (tt_ob z_changesOf (fun r _ => tt_if (fun _ => j118 _ _ _ _ _ _ (hw _ _ _ _) rfl rfl h0) (fun _ => j118 _ _ _ _ _ _ (hw _ _ _ _) rfl rfl h0))))))))))
  exact tt_ck hpl (tt_ob z_hasValue (fun _ _ => tt_if (fun _ => j51 _ _ (Or.inr rfl)) (fun _ => j51 _ _ (Or.inl rfl))))
theorem k_rest (h : wkX u0 u) (ho : isRn o) : Tt (g_X6_restLatestOn F (o + 12) x y z v u) (fun w => wkX u0 w) := by
  have hg := rn_ge ho
  unfold g_X6_restLatestOn
  exact tt_ob z_has6 (fun r hr => tt_if (fun _ => tt_s h) (fun q => tt_ck (hr q) (tt_lt (tt_ck (hr q) (tt_lt (tt_ck (hr q) (tt_lt (tt_ck (hr q) (tt_lt (tt_s (wx_A (wx_A (wx_A (wx_A h (by omega)) (by omega)) (by omega)) (by omega))))))))))))
theorem k_put (h : wkX u0 u) (ho : isRn o) : Tt (g_X7_putByStep F o x y z v a u) (fun w => wkX u0 w) := by
  have hg := rn_ge ho
  unfold g_X7_putByStep
  exact tt_ob (k_add6 h ho) (fun r hr => tt_ob (k_rest hr.1 ho) (fun r6 h6 => tt_if (fun _ => tt_lt (tt_s (wx_n h6 (by omega) (tn_11 ho)))) (fun _ => tt_lt (tt_s (wx_n h6 (by omega) (tn_11 ho))))))
theorem k_copy (h : wkX u0 u) (ho : isRn o) : Tt (g_X8_copy F o x y u) (fun w => wkX u0 w) := by
  unfold g_X8_copy
  exact tt_ob z_sortOf (fun _ _ => tt_ob z_numberOf (fun _ _ => tt_b (k_put h ho) (fun _ q => q)))
theorem k_compare (h : wkX u0 u) (ho : isRn o) : Tt (g_X8_compare F o x y z u) (fun w => wkX u0 w) := by
  unfold g_X8_compare g_X8_compare_j39
  exact tt_ob z_sortOf (fun _ _ => tt_ob z_numberOf (fun _ _ => tt_ob z_hasValue (fun _ _ => tt_if (fun _ => tt_b (k_put h ho) (fun _ q => q)) (fun _ => tt_b (k_put h ho) (fun _ q => q)))))
theorem k_combine (h : wkX u0 u) (ho : isRn o) : Tt (g_X8_combine F o x y z v u) (fun w => wkX u0 w.2) := by
  have j68 : ∀ s0, Tt (g_X8_combine_j68 F o x y z s0 u) (fun w => wkX u0 w.2) := fun s0 => by
    unfold g_X8_combine_j68
    exact tt_b (k_put h ho) (fun _ q => q)
  have j33 : Tt (g_X8_combine_j33 F o x y z v u) (fun w => wkX u0 w.2) := by
    unfold g_X8_combine_j33
    exact tt_ob z_numberOf (fun _ _ => tt_if (fun _ => j68 _) (fun _ => tt_ob z_numberOf (fun _ _ => j68 _)))
  unfold g_X8_combine
  exact tt_ob z_sortOf (fun _ _ => tt_if (fun _ => tt_if (fun _ => tt_ob z_sortOf (fun _ _ => tt_if (fun _ => j33) (fun _ => tt_s h))) (fun _ => j33)) (fun _ => tt_s h))
theorem k_fromCell (h : wkX u0 u) (ho : isRn o) : Tt (g_X8_fromCell F o x y u) (fun w => wkX u0 w.2) := by
  unfold g_X8_fromCell
  exact tt_ob z_sortOf (fun _ _ => tt_if (fun _ => tt_ob z_numberOf (fun _ _ => tt_if (fun _ => tt_s h) (fun _ => tt_if (fun _ => tt_ob z_latestOf (fun _ _ => tt_ob z_sortOf (fun _ _ => tt_ob z_numberOf (fun _ _ => tt_b (k_put h ho) (fun _ q => q))))) (fun _ => tt_s h)))) (fun _ => tt_s h))
theorem k_toCell (h : wkX u0 u) (ho : isRn o) : Tt (g_X8_toCell F o x y u) (fun w => wkX u0 w.2) := by
  unfold g_X8_toCell
  exact tt_ob z_sortOf (fun _ _ => tt_if (fun _ => tt_ob z_numberOf (fun _ _ => tt_if (fun _ => tt_s h) (fun _ => tt_if (fun _ => tt_ob z_sortOf (fun _ _ => tt_ob z_numberOf (fun _ _ => tt_b (k_put h ho) (fun _ q => q)))) (fun _ => tt_s h)))) (fun _ => tt_s h))
theorem k_outside (h : wkX u0 u) (ho : isRn o) : Tt (g_X7_putFromOutside F o x y z u) (fun w => wkX u0 w) := by
  unfold g_X7_putFromOutside g_X3_addWhole
  exact tt_ob (tt_b (k_add3 h ho) (fun _ q => q)) (fun _ h1 => tt_ob (k_put h1 ho) (fun _ h2 => tt_b (k_rest h2 ho) (fun _ q => q)))
theorem k_addOut (h : wkX u0 u) (ho : isRn o) : Tt (g_X7_addOut F o x y u) (fun w => wkX u0 w) := by
  have hg := rn_ge ho
  have hb := b_9 h ho
  unfold g_X7_addOut
  refine tt_if (fun _ => tt_s h) (fun h1 => tt_if (fun _ => tt_s h) (fun h2 => ?_))
  have h3 : (rF u o 9).toInt < 3000 := (by (try simp only [inb, Int32.lt_iff_toInt_lt, Int32.le_iff_toInt_le, t_m1, t_0, t_1, t_2, t_4, t_8, t_10, t_18, t_23, t_32, t_40, t_64, t_100, t_500, t_800, t_900, t_3000, t_3800] at *) <;> omega)
  have ht := t_a1 (x := rF u o 9) (by omega)
  have hi : inb (rF u o 9 + 1) 3001 := by constructor <;> omega
  have hj : inb (rF u o 9) 3001 := by constructor <;> omega
  exact tt_ck hi (tt_ck hi (tt_lt (tt_ck hj (tt_ck hi (tt_lt (tt_s (wx_A (wx_A h (by omega)) (by omega))))))))
theorem k_goOnAt (h : wkX u0 u) (ho : isRn o) : Tt (g_X7_goOnAt F o x u) (fun w => wkX u0 w) := by
  have hg := rn_ge ho
  have hb := b_9 h ho
  unfold g_X7_goOnAt
  refine tt_if (fun _ => tt_s h) (fun h1 => tt_if (fun _ => tt_s h) (fun h2 => ?_))
  have h3 : (rF u o 9).toInt < 3000 := (by (try simp only [inb, Int32.lt_iff_toInt_lt, Int32.le_iff_toInt_le, t_m1, t_0, t_1, t_2, t_4, t_8, t_10, t_18, t_23, t_32, t_40, t_64, t_100, t_500, t_800, t_900, t_3000, t_3800] at *) <;> omega)
  have ht := t_a1 (x := rF u o 9) (by omega)
  have hi : inb (rF u o 9 + 1) 3001 := by constructor <;> omega
  exact tt_ck hi (tt_lt (tt_s (wx_A h (by omega))))
theorem k_stackUp (h : wkX u0 u) (ho : isRn o) : Tt (g_X7_stackUp F o u) (fun w => wkX u0 w) := by
  have hg := rn_ge ho
  have hb := b_9 h ho
  unfold g_X7_stackUp
  refine tt_if (fun _ => tt_s h) (fun h1 => tt_if (fun _ => tt_s h) (fun h2 => ?_))
  have h3 : (rF u o 9).toInt < 3000 := (by (try simp only [inb, Int32.lt_iff_toInt_lt, Int32.le_iff_toInt_le, t_m1, t_0, t_1, t_2, t_4, t_8, t_10, t_18, t_23, t_32, t_40, t_64, t_100, t_500, t_800, t_900, t_3000, t_3800] at *) <;> omega)
  have ht := t_a1 (x := rF u o 9) (by omega)
  have hi : inb (rF u o 9 + 1) 3001 := by constructor <;> omega
  exact tt_ck hi (tt_lt (tt_s (wx_A h (by omega))))
theorem k_stackDown (h : wkX u0 u) (ho : isRn o) : Tt (g_X7_stackDown F o u) (fun w => wkX u0 w) := by
  have hg := rn_ge ho
  have hb := b_9 h ho
  unfold g_X7_stackDown
  refine tt_if (fun _ => tt_s h) (fun h1 => tt_if (fun _ => tt_s h) (fun h2 => ?_))
  have h3 : (rF u o 9).toInt < 3000 := (by (try simp only [inb, Int32.lt_iff_toInt_lt, Int32.le_iff_toInt_le, t_m1, t_0, t_1, t_2, t_4, t_8, t_10, t_18, t_23, t_32, t_40, t_64, t_100, t_500, t_800, t_900, t_3000, t_3800] at *) <;> omega)
  have ht := t_a1 (x := rF u o 9) (by omega)
  have hi : inb (rF u o 9 + 1) 3001 := by constructor <;> omega
  exact tt_ob z_topAt (fun _ _ => tt_ob z_topAt (fun _ _ => tt_ck hi (tt_lt (tt_s (wx_A h (by omega))))))
theorem k_putOut (h : wkX u0 u) (ho : isRn o) : Tt (g_X8_putOut F o x u) (fun w => wkX u0 w) := by
  unfold g_X8_putOut
  exact tt_ob z_sortOf (fun _ _ => tt_ob z_numberOf (fun _ _ => tt_b (k_addOut h ho) (fun _ q => q)))
theorem k_goOnIf (h : wkX u0 u) (ho : isRn o) : Tt (g_X8_goOnIf F o x y u) (fun w => wkX u0 w.2) := by
  unfold g_X8_goOnIf
  exact tt_ob z_sortOf (fun _ _ => tt_if (fun _ => tt_ob z_numberOf (fun _ _ => tt_if (fun _ => tt_b (k_goOnAt h ho) (fun _ q => q)) (fun _ => tt_s h))) (fun _ => tt_s h))
theorem k_goDown (h : wkX u0 u) (ho : isRn o) (hF : 10000 < F) : Tt (g_X8_goDown F o x u) (fun w => wkX u0 w.2) := by
  unfold g_X8_goDown
  exact tt_ob (z_stackSize hF) (fun _ _ => tt_if (fun _ => tt_ob (k_add1 h ho) (fun _ h1 => tt_ob (k_stackUp h1 ho) (fun _ h2 => tt_b (k_goOnAt h2 ho) (fun _ q => q)))) (fun _ => tt_s h))
theorem k_goUp (h : wkX u0 u) (ho : isRn o) (hF : 10000 < F) : Tt (g_X8_goUp F o u) (fun w => wkX u0 w) := by
  have hg := rn_ge ho
  unfold g_X8_goUp
  exact tt_ob (z_stackSize hF) (fun _ _ => tt_if (fun _ => tt_lt (tt_s (wx_n h (by omega) (tn_10 ho)))) (fun _ => tt_ob (z_stackedAt hF) (fun _ _ => tt_ob (k_goOnAt h ho) (fun _ h1 => tt_b (k_stackDown h1 ho) (fun _ q => q)))))
theorem k_reckon (h : wkX u0 u) (ho : isRn o) : Tt (g_X8_reckon F o x y z v u) (fun w => wkX u0 w.2) := by
  have j67 : ∀ l5 l6, Tt (g_X8_reckon_j67 F o x y z v l5 l6 u) (fun w => wkX u0 w.2) := fun l5 l6 => by
    unfold g_X8_reckon_j67 g_X8_reckon_j89
    exact tt_if (fun _ => tt_if (fun _ => tt_b (k_put h ho) (fun _ q => q)) (fun _ => tt_b (k_put h ho) (fun _ q => q))) (fun _ => tt_ob z_reckoned (fun _ _ => tt_b (k_put h ho) (fun _ q => q)))
  have j60 : ∀ l5 l6, Tt (g_X8_reckon_j60 F o x y z v l5 l6 u) (fun w => wkX u0 w.2) := fun l5 l6 => by
    unfold g_X8_reckon_j60
    exact tt_if (fun _ => tt_s h) (fun _ => j67 _ _)
  unfold g_X8_reckon
  exact tt_ob z_sortOf (fun _ _ => tt_if (fun _ => tt_ob z_sortOf (fun _ _ => tt_if (fun _ => tt_ob z_numberOf (fun _ _ => tt_ob z_numberOf (fun _ _ => tt_if (fun _ => j60 _ _) (fun _ => tt_if (fun _ => j60 _ _) (fun _ => j67 _ _))))) (fun _ => tt_s h))) (fun _ => tt_s h))
theorem k_perform (h : wkX u0 u) (ho : isRn o) (hF : 10000 < F) : Tt (g_X8_perform F o x u) (fun w => wkX u0 w.2) := by
  have hg := rn_ge ho
  have j405 : ∀ a b c d, Tt (g_X8_perform_j405 F o a b c d u) (fun w => wkX u0 w.2) := fun a b c d => by
    unfold g_X8_perform_j405
    exact tt_ob z_latestOf (fun _ _ => tt_ob z_latestOf (fun _ _ => tt_b (k_reckon h ho) (fun _ q => q)))
  unfold g_X8_perform
  refine tt_ob z_kindAt (fun _ _ => tt_ob z_firstAt (fun _ _ => tt_ob z_secondAt (fun _ _ => tt_ob z_thirdAt (fun _ _ => ?_))))
  refine tt_if (fun _ => tt_s h) (fun _ => ?_)
  refine tt_if (fun _ => tt_lt (tt_s (wx_n h (by omega) (tn_10 ho)))) (fun _ => ?_)
  refine tt_if (fun _ => tt_b (k_put h ho) (fun _ q => q)) (fun _ => ?_)
  refine tt_if (fun _ => tt_b (k_put h ho) (fun _ q => q)) (fun _ => ?_)
  refine tt_if (fun _ => tt_ob z_latestOf (fun _ _ => tt_b (k_copy h ho) (fun _ q => q))) (fun _ => ?_)
  refine tt_if (fun _ => tt_ob z_latestOf (fun _ _ => tt_ob z_latestOf (fun _ _ => tt_b (k_compare h ho) (fun _ q => q)))) (fun _ => ?_)
  refine tt_if (fun _ => tt_ob z_latestOf (fun _ _ => tt_b (k_combine h ho) (fun _ q => q))) (fun _ => ?_)
  refine tt_if (fun _ => tt_ob z_latestOf (fun _ _ => tt_ob z_latestOf (fun _ _ => tt_b (k_combine h ho) (fun _ q => q)))) (fun _ => ?_)
  refine tt_if (fun _ => tt_ob z_latestOf (fun _ _ => tt_b (k_fromCell h ho) (fun _ q => q))) (fun _ => ?_)
  refine tt_if (fun _ => tt_ob z_latestOf (fun _ _ => tt_ob z_latestOf (fun _ _ => tt_b (k_toCell h ho) (fun _ q => q)))) (fun _ => ?_)
  refine tt_if (fun _ => tt_b (k_goOnAt h ho) (fun _ q => q)) (fun _ => ?_)
  refine tt_if (fun _ => tt_ob z_latestOf (fun _ _ => tt_b (k_goOnIf h ho) (fun _ q => q))) (fun _ => ?_)
  refine tt_if (fun _ => tt_b (k_goDown h ho hF) (fun _ q => q)) (fun _ => ?_)
  refine tt_if (fun _ => tt_b (k_goUp h ho hF) (fun _ q => q)) (fun _ => ?_)
  refine tt_if (fun _ => tt_ob (k_takeFirst h) (fun _ h1 => tt_b (k_outside h1 ho) (fun _ q => q))) (fun _ => ?_)
  refine tt_if (fun _ => tt_ob (k_draw h) (fun _ h1 => tt_b (k_outside h1 ho) (fun _ q => q))) (fun _ => ?_)
  refine tt_if (fun _ => tt_ob z_latestOf (fun _ _ => tt_b (k_putOut h ho) (fun _ q => q))) (fun _ => ?_)
  refine tt_if (fun _ => tt_b (k_put h ho) (fun _ q => q)) (fun _ => ?_)
  exact j405 _ _ _ _
theorem k_dropGoes (h : wkX u0 u) (ho : isRn o) (hF : 10000 < F) : Tt (g_X2_dropWhatGoesBy F (o + 28) x u) (fun w => wkX u0 w) := by
  have hg := rn_ge ho
  unfold g_X2_dropWhatGoesBy
  refine tt_ob (tt_lp (I := fun s => wkX u0 s.2.2 ∧ (0 ≤ s.1.toInt ∧ s.1.toInt ≤ s.2.1.toInt ∧ s.2.1.toInt ≤ 64)) (m := fun s => (64 - s.2.1.toInt).toNat) (P := fun r => wkX u0 r.2 ∧ 0 ≤ r.1.toInt ∧ r.1.toInt ≤ 64) ?_ F _ ?_ ?_) (fun r hr => tt_lt (tt_s (wx_b hr.1 (by omega) (tb_H ho) hr.2.1 hr.2.2)))
  · rintro ⟨a, c, w⟩ ⟨h0, h1, h2, h3⟩
    dsimp only at h0 h1 h2 h3 ⊢
    unfold g_X2_dropWhatGoesBy_l4
    refine tt_if (fun _ => tt_r ⟨h0, h1, by dsimp only; omega⟩) (fun h4 => tt_if (fun _ => tt_r ⟨h0, h1, by dsimp only; omega⟩) (fun h5 => ?_))
    have h6 : c.toInt < 64 := (by (try simp only [inb, Int32.lt_iff_toInt_lt, Int32.le_iff_toInt_le, t_m1, t_0, t_1, t_2, t_4, t_8, t_10, t_18, t_23, t_32, t_40, t_64, t_100, t_500, t_800, t_900, t_3000, t_3800] at *) <;> omega)
    have tc := t_a1 (x := c) (by omega)
    have ta := t_a1 (x := a) (by omega)
    have j52 : ∀ (a' : Int32) (w' : rg_U), wkX u0 w' → (0 ≤ a'.toInt ∧ a'.toInt ≤ c.toInt + 1) → Tt (g_X2_dropWhatGoesBy_j52 F (o + 28) x a' c w') (PS (fun s' : Int32 × Int32 × rg_U => (wkX u0 s'.2.2 ∧ (0 ≤ s'.1.toInt ∧ s'.1.toInt ≤ s'.2.1.toInt ∧ s'.2.1.toInt ≤ 64)) ∧ (64 - s'.2.1.toInt).toNat < (64 - c.toInt).toNat) (fun r : Int32 × rg_U => wkX u0 r.2 ∧ 0 ≤ r.1.toInt ∧ r.1.toInt ≤ 64)) := fun a' w' hw' ha' => tt_l ⟨⟨hw', by dsimp only; omega⟩, by dsimp only; omega⟩
    have hi : inb c 64 := by constructor <;> omega
    have hj : inb a 64 := by constructor <;> omega
    have j37 : Tt (g_X2_dropWhatGoesBy_j37 F (o + 28) x a c w) (PS (fun s' : Int32 × Int32 × rg_U => (wkX u0 s'.2.2 ∧ (0 ≤ s'.1.toInt ∧ s'.1.toInt ≤ s'.2.1.toInt ∧ s'.2.1.toInt ≤ 64)) ∧ (64 - s'.2.1.toInt).toNat < (64 - c.toInt).toNat) (fun r : Int32 × rg_U => wkX u0 r.2 ∧ 0 ≤ r.1.toInt ∧ r.1.toInt ≤ 64)) := by
      unfold g_X2_dropWhatGoesBy_j37
      exact tt_ck hi (tt_ck hj (tt_lt (j52 _ _ (wx_A h0 (by omega)) (by omega))))
    exact tt_ob z_goesAt (fun _ _ => tt_if (fun _ => j37) (fun _ => tt_if (fun _ => j52 _ _ h0 (by omega)) (fun _ => j37)))
  · dsimp only
    rw [t_0]
    omega
  · dsimp only
    rw [t_0]
    exact ⟨h, by omega⟩
theorem k_timeComes (h : wkX u0 u) (ho : isRn o) (hF : 10000 < F) : Tt (g_X2_timeComes F (o + 28) x u) (fun w => wkX u0 w) := by
  have hg := rn_ge ho
  have j59 : ∀ w, wkX u0 w → Tt (g_X2_timeComes_j59 F (o + 28) w) (fun w => wkX u0 w) := fun w hw => by
    unfold g_X2_timeComes_j59
    exact tt_lt (tt_s (wx_n hw (by omega) (tn_H2 ho)))
  unfold g_X2_timeComes
  refine tt_if (fun _ => tt_s h) (fun h1 => tt_ck (fun h0 => h1 (by rw [h0]; decide)) (tt_if (fun _ => tt_ob (k_dropGoes h ho hF) (fun w hw => tt_if (fun _ => j59 _ hw) (fun _ => tt_if (fun _ => j59 _ hw) (fun h3 => ?_)))) (fun _ => tt_s h)))
  have hb := b_H hw ho
  have h4 : (rF w (o + 28) 1).toInt < 64 := (by (try simp only [inb, Int32.lt_iff_toInt_lt, Int32.le_iff_toInt_le, t_m1, t_0, t_1, t_2, t_4, t_8, t_10, t_18, t_23, t_32, t_40, t_64, t_100, t_500, t_800, t_900, t_3000, t_3800] at *) <;> omega)
  have ht := t_a1 (x := rF w (o + 28) 1) (by omega)
  have hi : inb (rF w (o + 28) 1) 64 := by constructor <;> omega
  exact tt_ck hi (tt_lt (tt_lt (j59 _ (wx_b (wx_A hw (by omega)) (by omega) (tb_H ho) (by show 0 ≤ (rF w (o + 28) 1 + 1).toInt; omega) (by show (rF w (o + 28) 1 + 1).toInt ≤ 64; omega)))))
theorem k_step (h : wkX u0 u) (ho : isRn o) (hF : 10000 < F) : Tt (g_X7_step F o u) (fun w => wkX u0 w) := by
  have hg := rn_ge ho
  have hb := b_9 h ho
  unfold g_X7_step
  refine tt_if (fun _ => tt_s h) (fun h1 => tt_if (fun h2 => ?_) (fun _ => tt_s h))
  have ht := t_a1 (x := rF u o 9) (by omega)
  have h3 : (rF u o 9).toInt + 1 ≤ 3000 := by
    rw [Int32.le_iff_toInt_le, t_3000] at h2
    omega
  have hi : inb (rF u o 9 + 1) 3001 := by constructor <;> omega
  have hj : inb (rF u o 9) 3001 := by constructor <;> omega
  have j121 : ∀ w, wkX u0 w → Tt (g_X7_step_j121 F o (rF u o 9 + 1) w) (fun w => wkX u0 w) := fun w hw => by
    unfold g_X7_step_j121
    exact tt_lt (tt_b (k_timeComes (wx_b hw (by omega) (tb_9 ho) (by omega) (by omega)) ho hF) (fun _ q => q))
  have e9 : rF (sF u o 11 (-1)) o 9 = rF u o 9 := by
    show upd u.1 (100 * o + 11) (-1) (100 * o + 9) = _
    rw [pk_un (by omega)]
    rfl
  have hw0 : wkX u0 (sF u o 11 (-1)) := wx_n h (by omega) (tn_11 ho)
  refine tt_lt (tt_ck (by rw [e9]; exact hj) (tt_ck hi (tt_lt (tt_ck (by show inb (rF (sF u o 11 (-1)) o 9) 3001; rw [e9]; exact hj) (tt_ck hi (tt_lt (tt_ck (by show inb (rF (sF u o 11 (-1)) o 9) 3001; rw [e9]; exact hj) (tt_ck hi (tt_lt (tt_ck (by show inb (rF (sF u o 11 (-1)) o 9) 3001; rw [e9]; exact hj) (tt_ck hi (tt_lt (tt_ck (by show inb (rF (sF u o 11 (-1)) o 9) 3001; rw [e9]; exact hj) (tt_ob (k_perform (u0 := u0) (wx_A (wx_A (wx_A (wx_A hw0 (by omega)) (by omega)) (by omega)) (by omega)) ho hF) (fun r hr => tt_if (fun _ => j121 _ hr) (fun _ => tt_lt (j121 _ (wx_n hr (by omega) (tn_10 ho)))))))))))))))))))
theorem k_poke (h : wkX u0 u) (ho : isRn o) : Tt (g_X7_putByPoke F o x y z u) (fun w => wkX u0 w.2) := by
  unfold g_X7_putByPoke g_X3_addPoke
  exact tt_ob (tt_b (k_add3 h ho) (fun _ q => q)) (fun _ h1 => tt_ob (k_add6 h1 ho) (fun r h2 => tt_ob (k_rest h2.1 ho) (fun _ h3 => tt_ck h2.2 (tt_s h3))))
end WKM
