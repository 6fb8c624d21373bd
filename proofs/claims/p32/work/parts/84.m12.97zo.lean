section W_55
-- 97zo.weak
/-! the class: every call returns -/
def okX (u : rg_U) : Prop := wkB u ∧ wkG u
section WKO
variable {F o o' j s : Nat} {x y z v i a b c d e : Int32} {u0 u w : rg_U}
theorem k_count (h : wkX u0 u) (ho : isRn o) : Tt (g_X9_count F o x u) (fun w => wkX u0 w) := by
  have hg := rn_ge ho
  unfold g_X9_count
  exact tt_lt (tt_lt (tt_s (wx_n (wx_n h (by omega) (tn_12 ho)) (by decide) (by decide))))
theorem k_replay (h : wkX u0 u) (ho : isRn o) (hF : 10000 < F) : Tt (g_X9_replay F o x u) (fun w => wkX u0 w) := by
  unfold g_X9_replay g_X9_replay_j24
  exact tt_if (fun _ => tt_b (k_count h ho) (fun _ q => q)) (fun _ => tt_ob (z_latestBy (b_H h ho) hF) (fun _ _ => tt_b (k_count h ho) (fun _ q => q)))
theorem k_lastChange (h : wkX u0 u) (ho : isRn o) (hx : inb x 3001) (hF : 10000 < F) : Tt (g_X9_lastChange F o x y u) (fun z => wkX u0 z.2) := by
  obtain ⟨X, hX, eX⟩ := t_nI (x := x) (N := 3000) hx.1 (by have := hx.2; omega)
  unfold g_X9_lastChange
  refine tt_ob (k_replay h ho hF) (fun w1 h1 => tt_ob (z_putBy (b_P h1 ho) hF) (fun _ _ => tt_ob z_changesOf (fun _ _ => tt_if (fun _ => tt_s h1) (fun _ => tt_ob (z_changedSince (b_P h1 ho) hF) (fun r _ => tt_b (tt_lp (I := fun s => wkX u0 s.2.2 ∧ ∃ a b : Nat, s.1 = nI a ∧ s.2.1 = nI b ∧ a ≤ 3001 ∧ b ≤ 3000) (m := fun s => (s.2.1.toInt - s.1.toInt).toNat) (P := fun z => wkX u0 z.2) ?_ F _ ?_ ?_) (fun _ q => q))))))
  · rintro ⟨p, q, w⟩ ⟨h0, a, b, rfl, rfl, ha, hb⟩
    dsimp only at h0 ⊢
    unfold g_X9_lastChange_l48 g_X9_lastChange_j91
    refine tt_if (fun _ => tt_r h0) (fun h3 => ?_)
    have hab : a < b := by
      rcases Nat.lt_or_ge a b with z | z
      · exact z
      · exact absurd (nI_le z (by omega)) h3
    have em : (nI a + nI b) / 2 = nI ((a + b) / 2) := by rw [nI_add]; exact pk_div (a := a + b) (d := 2) (by omega) (by omega) (by omega)
    rw [em]
    have ta := nI_toInt (n := a) (by omega)
    have tb := nI_toInt (n := b) (by omega)
    have tm := nI_toInt (n := (a + b) / 2) (by omega)
    have tm1 := nI_toInt (n := (a + b) / 2 + 1) (by omega)
    refine tt_ob (k_replay h0 ho hF) (fun w' hw' => tt_if (fun _ => tt_l ⟨⟨hw', (a + b) / 2 + 1, b, nI_1 _, rfl, by omega, hb⟩, ?_⟩) (fun _ => tt_l ⟨⟨hw', a, (a + b) / 2, rfl, rfl, ha, by omega⟩, ?_⟩))
    · dsimp only
      rw [nI_1, tm1, tb, ta]
      omega
    · dsimp only
      rw [tm, tb, ta]
      omega
  · dsimp only
    rw [t_0, eX, nI_toInt (by omega)]
    omega
  · exact ⟨h1, 0, X, rfl, eX, by omega, hX⟩
theorem z_room (hG : wkG u) : Tt (g_X9_roomOfKept F x u) (fun r => (inb x 4 → ∃ k, k < 4 ∧ x = nI k ∧ r = some (151 + 34 * k)) ∧ (¬ inb x 4 → r = none)) := by
  unfold g_X9_roomOfKept
  refine tt_if (fun h1 => tt_s ⟨fun q => ?_, fun _ => rfl⟩) (fun h1 => tt_if (fun h2 => tt_s ⟨fun q => ?_, fun _ => rfl⟩) (fun h2 => ?_))
  · exfalso
    (try simp only [inb, Int32.lt_iff_toInt_lt, Int32.le_iff_toInt_le, t_m1, t_0, t_1, t_2, t_4, t_8, t_10, t_18, t_23, t_32, t_40, t_64, t_100, t_500, t_800, t_900, t_3000, t_3800] at *) <;> omega
  · exfalso
    (try simp only [inb, Int32.lt_iff_toInt_lt, Int32.le_iff_toInt_le, t_m1, t_0, t_1, t_2, t_4, t_8, t_10, t_18, t_23, t_32, t_40, t_64, t_100, t_500, t_800, t_900, t_3000, t_3800] at *) <;> omega
  · have hi : inb x 4 := (by (try simp only [inb, Int32.lt_iff_toInt_lt, Int32.le_iff_toInt_le, t_m1, t_0, t_1, t_2, t_4, t_8, t_10, t_18, t_23, t_32, t_40, t_64, t_100, t_500, t_800, t_900, t_3000, t_3800] at *) <;> omega)
    obtain ⟨k, hk, e⟩ := t_nI (x := x) (N := 3) hi.1 (by have := hi.2; omega)
    have e2 : rQ u 150 x = some (151 + 34 * k) := by
      unfold rQ
      rw [e, nI_clamp (by omega)]
      exact hG.2.1 k (by omega)
    have hr : isRn (151 + 34 * k) := by
      rcases (show k = 0 ∨ k = 1 ∨ k = 2 ∨ k = 3 by omega) with rfl | rfl | rfl | rfl
      · exact Or.inr (Or.inl rfl)
      · exact Or.inr (Or.inr (Or.inl rfl))
      · exact Or.inr (Or.inr (Or.inr (Or.inl rfl)))
      · exact Or.inr (Or.inr (Or.inr (Or.inr rfl)))
    rw [e2, om_i]
    exact tt_ck hi (tt_ck hr (tt_s ⟨fun _ => ⟨k, by omega, e, rfl⟩, fun q => absurd hi q⟩))
theorem rn_room {k : Nat} (hk : k < 4) : isRn (151 + 34 * k) := by
  rcases (show k = 0 ∨ k = 1 ∨ k = 2 ∨ k = 3 by omega) with rfl | rfl | rfl | rfl
  · exact Or.inr (Or.inl rfl)
  · exact Or.inr (Or.inr (Or.inl rfl))
  · exact Or.inr (Or.inr (Or.inr (Or.inl rfl)))
  · exact Or.inr (Or.inr (Or.inr (Or.inr rfl)))
theorem z_numbered (hG : wkG u) : Tt (g_X9_numbered F x u) (fun r => ∀ o, r = some o → isRn o) := by
  unfold g_X9_numbered
  refine tt_if (fun _ => ?_) (fun _ => tt_ob z_isKept (fun r hr => tt_if (fun _ => tt_s fun o q => by cases q) (fun q => tt_ob (z_room hG) (fun r5 h5 => ?_))))
  · rcases hG.1 with e | e
    · rw [show rG u 0 7 = none from e, om_0]
      exact tt_s fun o q => by cases q
    · rw [show rG u 0 7 = some 116 from e, om_i]
      exact tt_ck (Or.inl rfl) (tt_s fun o q => by cases q; exact Or.inl rfl)
  · obtain ⟨k, hk, -, e⟩ := h5.1 (hr q)
    rw [e, om_i]
    exact tt_ck (rn_room hk) (tt_s fun o q => by cases q; exact rn_room hk)
theorem tt_num {α : Type} {A : Option α} {f : Nat → Option α} {P : α → Prop} (hG : wkG u) (hA : Tt A P) (hB : ∀ o, isRn o → Tt (f o) P) : Tt (ob (g_X9_numbered F x u) (fun r => om r A (fun o => ck (isRn o) (f o)))) P := tt_ob (z_numbered hG) (fun r hr => tt_om (fun _ => hA) (fun o e => tt_ck (hr o e) (hB o (hr o e))))
theorem wx_13 (h : wkX u0 u) : wkX u0 (sF u 0 13 v) := wx_n h (by decide) (by decide)
theorem wk_at (h : wkX u0 u) (hG : wkG u0) (hF : 10000 < F) : Tt (g_X9_at F x y z u) (fun z => wkX u0 z.2) := by
  unfold g_X9_at
  have h1 : wkX u0 (sF u 0 13 0) := wx_13 h
  refine tt_lt (tt_num (wx_G hG h1) (tt_s h1) (fun o ho => tt_ob z_hasT (fun r hr => tt_if (fun _ => tt_s h1) (fun q => tt_if (fun _ => tt_s h1) (fun _ => tt_if (fun _ => tt_s h1) (fun _ => tt_if (fun _ => tt_ob (k_replay h1 ho hF) (fun w hw => tt_ob (z_putBy (b_P hw ho) hF) (fun _ _ => tt_if (fun _ => tt_b z_sortOf (fun _ _ => hw)) (fun _ => tt_if (fun _ => tt_b z_numberOf (fun _ _ => hw)) (fun _ => tt_b z_changesOf (fun _ _ => hw)))))) (fun _ => tt_s h1)))))))
theorem wk_state (h : wkX u0 u) (hG : wkG u0) (hF : 10000 < F) : Tt (g_X9_state F x y u) (fun z => wkX u0 z.2) := by
  unfold g_X9_state
  have h1 : wkX u0 (sF u 0 13 0) := wx_13 h
  exact tt_lt (tt_num (wx_G hG h1) (tt_s h1) (fun o ho => tt_ob z_hasT (fun r hr => tt_if (fun _ => tt_s h1) (fun q => tt_if (fun _ => tt_s h1) (fun _ => tt_ob (k_replay h1 ho hF) (fun w hw => tt_if (fun _ => tt_b z_counterAt (fun _ _ => hw)) (fun _ => tt_if (fun _ => tt_b (z_stackSize hF) (fun _ _ => hw)) (fun _ => tt_if (fun _ => tt_b z_outsAt (fun _ _ => hw)) (fun _ => tt_if (fun _ => tt_b z_checkAt (fun _ _ => hw)) (fun _ => tt_if (fun _ => tt_ob z_counterAt (fun _ _ => tt_b z_kindAt (fun _ _ => hw))) (fun _ => tt_b (z_stackedAt hF) (fun _ _ => hw))))))))))))
theorem wk_last (h : wkX u0 u) (hG : wkG u0) (hF : 10000 < F) : Tt (g_X9_last F x y u) (fun z => wkX u0 z.2) := by
  unfold g_X9_last
  have h1 : wkX u0 (sF u 0 13 0) := wx_13 h
  exact tt_lt (tt_num (wx_G hG h1) (tt_s h1) (fun o ho => tt_ob z_hasT (fun r hr => tt_if (fun _ => tt_s h1) (fun q => tt_if (fun _ => tt_s h1) (fun _ => tt_b (k_lastChange h1 ho (hr q) hF) (fun _ q => q))))))
theorem wk_when (h : wkX u0 u) (hG : wkG u0) (hF : 10000 < F) : Tt (g_X9_when F x y z v u) (fun z => wkX u0 z.2) := by
  unfold g_X9_when
  have h1 : wkX u0 (sF u 0 13 0) := wx_13 h
  exact tt_lt (tt_num (wx_G hG h1) (tt_s h1) (fun o ho => tt_ob z_hasT (fun r hr => tt_if (fun _ => tt_s h1) (fun q => tt_if (fun _ => tt_s h1) (fun _ => tt_if (fun _ => tt_s h1) (fun _ => tt_ob (z_hadBy (b_P h1 ho) hF) (fun _ _ => tt_ob (z_stepsToFind (b_H h1 ho) hF) (fun _ _ => tt_b (k_count h1 ho) (fun _ q => q)))))))))
theorem t_pl : 0 ≤ (g_X9_placesOf y).toInt ∧ (g_X9_placesOf y).toInt ≤ 32 := by
  unfold g_X9_placesOf
  by_cases q : y = 0
  · rw [if_pos q]; decide
  · rw [if_neg q]; decide
theorem wk_changed (h : wkX u0 u) (hG : wkG u0) (hF : 10000 < F) : Tt (g_X9_changed F x y u) (fun z => wkX u0 z.2) := by
  unfold g_X9_changed
  have h1 : wkX u0 (sF u 0 13 0) := wx_13 h
  have hp := t_pl (y := y)
  refine tt_lt (tt_num (wx_G hG h1) (tt_s h1) (fun o ho => tt_if (fun _ => tt_s h1) (fun _ => tt_if (fun _ => tt_s h1) (fun _ => tt_if (fun _ => tt_s h1) (fun _ => tt_ob (k_replay h1 ho hF) (fun w1 h2 => tt_ob (k_replay h2 ho hF) (fun w2 h3 => tt_b (tt_lp (I := fun s => 0 ≤ s.2.toInt ∧ s.2.toInt ≤ 32) (m := fun s => (32 - s.2.toInt).toNat) (P := fun _ => True) ?_ F _ ?_ ?_) (fun _ _ => h3))))))))
  · rintro ⟨a, c⟩ ⟨h4, h5⟩
    dsimp only at h4 h5 ⊢
    unfold g_X9_changed_l60 g_X9_changed_j134
    refine tt_if (fun _ => tt_r trivial) (fun h6 => ?_)
    rw [Int32.le_iff_toInt_le] at h6
    have := t_a1 (x := c) (by omega)
    exact tt_ob (z_putBy (b_P h3 ho) hF) (fun _ _ => tt_ob z_changesOf (fun _ _ => tt_ob (z_putBy (b_P h3 ho) hF) (fun _ _ => tt_ob z_changesOf (fun _ _ => tt_if (fun _ => tt_l (by dsimp only; omega)) (fun _ => tt_l (by dsimp only; omega))))))
  · dsimp only
    rw [t_0]
    omega
  · dsimp only
    rw [t_0]
    omega
theorem wk_watched (h : wkX u0 u) (hG : wkG u0) (hF : 10000 < F) : Tt (g_X9_watched F x u) (fun z => wkX u0 z.2) := by
  unfold g_X9_watched
  have h1 : wkX u0 (sF u 0 13 0) := wx_13 h
  refine tt_lt (tt_num (wx_G hG h1) (tt_s h1) (fun o ho => tt_if (fun _ => tt_s h1) (fun h2 => tt_if (fun h3 => tt_b (tt_lp (I := fun s => wkX u0 s.2.2 ∧ 0 ≤ s.2.1.toInt ∧ s.2.1.toInt ≤ 40) (m := fun s => (40 - s.2.1.toInt).toNat) (P := fun z => wkX u0 z.2) ?_ F _ ?_ ?_) (fun _ q => q)) (fun _ => tt_s h1))))
  · rintro ⟨a, c, w⟩ ⟨h0, h4, h5⟩
    dsimp only at h0 h4 h5 ⊢
    unfold g_X9_watched_l39 g_X9_watched_j70
    refine tt_if (fun _ => tt_r h0) (fun h6 => ?_)
    have hb := b_9 h1 ho
    rw [Int32.le_iff_toInt_le, t_40] at h6
    rw [Int32.lt_iff_toInt_lt, t_1] at h2
    rw [Int32.le_iff_toInt_le] at h3
    have := t_a1 (x := c) (by omega)
    have ts := t_s1 (x := x) (by omega)
    have hi : inb (x - 1) 3001 := by constructor <;> omega
    exact tt_ob z_isWatched (fun _ _ => tt_if (fun _ => tt_l ⟨⟨h0, by dsimp only; omega⟩, by dsimp only; omega⟩) (fun _ => tt_ob (k_lastChange h0 ho hi hF) (fun _ h7 => tt_l ⟨⟨h7, by dsimp only; omega⟩, by dsimp only; omega⟩)))
  · dsimp only
    rw [t_0]
    omega
  · dsimp only
    rw [t_0]
    exact ⟨h1, by omega⟩
theorem wk_rests (h : wkX u0 u) (hG : wkG u0) (hF : 10000 < F) : Tt (g_X9_rests F x y z u) (fun z => wkX u0 z.2) := by
  unfold g_X9_rests
  exact tt_num (wx_G hG h) (tt_s h) (fun o ho => tt_ob z_hasT (fun r hr => tt_if (fun _ => tt_s h) (fun q => tt_if (fun _ => tt_s h) (fun _ => tt_ob (z_putBy (b_P h ho) hF) (fun _ _ => tt_ob (k_markBelow h ho hF) (fun _ h1 => tt_b (z_markedStep (by decide) hF) (fun _ _ => h1)))))))
theorem wk_hangs (h : wkX u0 u) (hG : wkG u0) (hF : 10000 < F) : Tt (g_X9_hangs F x y z u) (fun z => wkX u0 z.2) := by
  unfold g_X9_hangs
  have hp := t_pl (y := z)
  refine tt_num (wx_G hG h) (tt_s h) (fun o ho => tt_ob z_has3 (fun r hr => tt_if (fun _ => tt_s h) (fun q => tt_ob z_hasT (fun r hr => tt_if (fun _ => tt_s h) (fun q => tt_if (fun _ => tt_s h) (fun _ => tt_ob (k_markAbove h hF) (fun w1 h1 => tt_b (tt_lp (I := fun s => 0 ≤ s.2.toInt ∧ s.2.toInt ≤ 32) (m := fun s => (32 - s.2.toInt).toNat) (P := fun _ => True) ?_ F _ ?_ ?_) (fun _ _ => h1))))))))
  · rintro ⟨a, c⟩ ⟨h4, h5⟩
    dsimp only at h4 h5 ⊢
    unfold g_X9_hangs_l65 g_X9_hangs_j109
    refine tt_if (fun _ => tt_r trivial) (fun h6 => ?_)
    rw [Int32.le_iff_toInt_le] at h6
    have := t_a1 (x := c) (by omega)
    exact tt_ob (z_putBy (b_P h1 ho) hF) (fun _ _ => tt_ob (z_isMarked (by decide)) (fun _ _ => tt_if (fun _ => tt_l (by dsimp only; omega)) (fun _ => tt_l (by dsimp only; omega))))
  · dsimp only
    rw [t_0]
    omega
  · dsimp only
    rw [t_0]
    omega
theorem wk_history (h : wkX u0 u) (hG : wkG u0) (hF : 10000 < F) : Tt (g_X9_history F x y z u) (fun _ => True) := by
  have j68 : ∀ o s0, isRn o → Tt (g_X9_history_j68 F o x z s0 u) (fun _ => True) := fun o s0 ho => by
    unfold g_X9_history_j68
    exact tt_if (fun _ => tt_s trivial) (fun _ => tt_ob (z_putBy (b_P h ho) hF) (fun _ _ => tt_if (fun _ => tt_s trivial) (fun _ => tt_if (fun _ => tt_b z_sortOf (fun _ _ => trivial)) (fun _ => tt_b z_numberOf (fun _ _ => trivial)))))
  unfold g_X9_history
  exact tt_num (wx_G hG h) (tt_s trivial) (fun o ho => tt_if (fun _ => tt_s trivial) (fun _ => tt_if (fun _ => tt_s trivial) (fun _ => tt_if (fun _ => tt_if (fun _ => tt_b (z_changeTimes hF) (fun _ _ => trivial)) (fun _ => tt_if (fun _ => tt_ob (z_changeTimes hF) (fun _ _ => j68 _ _ ho)) (fun _ => j68 _ _ ho))) (fun _ => tt_s trivial))))
theorem wk_done (h : wkX u0 u) (hG : wkG u0) (hF : 10000 < F) : Tt (g_X9_done F x y u) (fun _ => True) := by
  unfold g_X9_done
  refine tt_num (wx_G hG h) (tt_s trivial) (fun o ho => tt_ob z_hasT (fun r hr => tt_if (fun _ => tt_s trivial) (fun q => tt_if (fun _ => tt_s trivial) (fun _ => tt_if (fun _ => tt_b (tt_lp (I := fun s => 0 ≤ s.2.toInt ∧ s.2.toInt ≤ 3001) (m := fun s => (3001 - s.2.toInt).toNat) (P := fun _ => True) ?_ F _ ?_ ?_) (fun _ _ => trivial)) (fun _ => tt_s trivial)))))
  · rintro ⟨a, c⟩ ⟨h4, h5⟩
    dsimp only at h4 h5 ⊢
    unfold g_X9_done_l40 g_X9_done_j59
    refine tt_if (fun _ => tt_r trivial) (fun h6 => ?_)
    rw [Int32.le_iff_toInt_le] at h6
    have hi := hr q
    have h7 := hi.2
    have := t_a1 (x := c) (by omega)
    exact tt_ob z_counterAt (fun _ _ => tt_if (fun _ => tt_l (by dsimp only; omega)) (fun _ => tt_l (by dsimp only; omega)))
  · dsimp only
    rw [t_0]
    omega
  · dsimp only
    rw [t_0]
    omega
theorem wk_call (hG : wkG u) : Tt (g_X9_call F x y u) (fun _ => True) := by
  unfold g_X9_call
  exact tt_num hG (tt_s trivial) (fun o ho => tt_if (fun _ => tt_s trivial) (fun _ => tt_if (fun _ => tt_if (fun _ => tt_s trivial) (fun _ => tt_b z_read1 (fun _ _ => trivial))) (fun _ => tt_s trivial)))
theorem wk_log (hG : wkG u) : Tt (g_X9_log F x y u) (fun _ => True) := by
  unfold g_X9_log
  exact tt_num hG (tt_s trivial) (fun o ho => tt_if (fun _ => tt_s trivial) (fun _ => tt_if (fun _ => tt_if (fun _ => tt_s trivial) (fun _ => tt_b z_read3 (fun _ _ => trivial))) (fun _ => tt_s trivial)))
theorem wk_held (hG : wkG u) : Tt (g_X9_held F x y u) (fun _ => True) := by
  unfold g_X9_held
  exact tt_num hG (tt_s trivial) (fun o ho => tt_if (fun _ => tt_s trivial) (fun _ => tt_if (fun _ => tt_if (fun _ => tt_s trivial) (fun _ => tt_if (fun _ => tt_b z_timeOf2 (fun _ _ => trivial)) (fun _ => tt_b z_goesAt (fun _ _ => trivial)))) (fun _ => tt_s trivial)))
theorem wk_look (hG : wkG u) : Tt (g_X9_look F x u) (fun _ => True) := by
  have j24 : Tt (g_X9_look_j24 F x u) (fun _ => True) := by
    unfold g_X9_look_j24
    exact tt_if (fun _ => tt_s trivial) (fun _ => tt_if (fun _ => tt_s trivial) (fun _ => tt_if (fun _ => tt_s trivial) (fun _ => tt_if (fun _ => tt_s trivial) (fun _ => tt_if (fun _ => tt_s trivial) (fun _ => tt_if (fun _ => tt_s trivial) (fun _ => tt_s trivial))))))
  have lr : ∀ o, Tt (g_X9_lookAtRun F o x u) (fun _ => True) := fun o => by
    unfold g_X9_lookAtRun
    exact tt_if (fun _ => tt_s trivial) (fun _ => tt_if (fun _ => tt_ob z_isKept (fun _ _ => tt_if (fun _ => tt_b z_status (fun _ _ => trivial)) (fun _ => tt_s trivial))) (fun _ => tt_if (fun _ => tt_s trivial) (fun _ => tt_if (fun _ => tt_s trivial) (fun _ => tt_if (fun _ => tt_s trivial) (fun _ => tt_if (fun _ => tt_s trivial) (fun _ => tt_s trivial))))))
  unfold g_X9_look
  refine tt_if (fun _ => j24) (fun _ => tt_if (fun _ => j24) (fun _ => tt_num hG ?_ (fun o ho => tt_b (lr o) (fun _ _ => trivial))))
  unfold g_X9_lookAtRun_n
  exact tt_s trivial
theorem tt_num2 {α : Type} {A : Option α} {f : Nat → Nat → Option α} {P : α → Prop} (hG : wkG u) (hA : Tt A P) (hB : ∀ o o', isRn o → isRn o' → Tt (f o o') P) : Tt (ob (g_X9_numbered F x u) (fun r => om r (ob (g_X9_numbered F y u) (fun r4 => om r4 A (fun o6 => ck (isRn o6) A))) (fun o3 => ck (isRn o3) (ob (g_X9_numbered F y u) (fun r8 => om r8 A (fun o10 => ck (isRn o10) (f o3 o10))))))) P := tt_num hG (tt_num hG hA (fun _ _ => hA)) (fun o ho => tt_num hG hA (fun o' ho' => hB o o' ho ho'))
theorem wk_align (h : wkX u0 u) (hG : wkG u0) (hF : 10000 < F) : Tt (g_X9_align F x y u) (fun z => wkX u0 z.2) := by
  unfold g_X9_align
  exact tt_num2 (wx_G hG h) (tt_s h) (fun o o' ho ho' => tt_b (k_lay hG h ho ho' hF) (fun _ q => q))
theorem wk_parts (h : wkX u0 u) (hG : wkG u0) (hF : 10000 < F) : Tt (g_X9_parts F x y u) (fun z => wkX u0 z.2) := by
  unfold g_X9_parts
  exact tt_num2 (wx_G hG h) (tt_s h) (fun o o' ho ho' => tt_b (k_firstUnlike h ho ho' hF) (fun _ q => q))
theorem z_unlike {o1 o2 : Nat} {l1 l3 l4 : Int32} (h1 : 0 ≤ (rF u o1 11).toInt ∧ (rF u o1 11).toInt ≤ 3800) (h2 : 0 ≤ (rF u o2 11).toInt ∧ (rF u o2 11).toInt ≤ 3800) (hF : 10000 < F) : Tt (g_X9_unlike F o1 l1 o2 l3 l4 u) (fun _ => True) := by
  have hp := t_pl (y := l4)
  unfold g_X9_unlike
  refine tt_b (tt_lp (I := fun s => 0 ≤ s.2.toInt ∧ s.2.toInt ≤ 32) (m := fun s => (32 - s.2.toInt).toNat) (P := fun _ => True) ?_ F _ ?_ ?_) (fun _ _ => trivial)
  · rintro ⟨a, c⟩ ⟨h4, h5⟩
    dsimp only at h4 h5 ⊢
    unfold g_X9_unlike_l6 g_X9_unlike_j70
    refine tt_if (fun _ => tt_r trivial) (fun h6 => ?_)
    rw [Int32.le_iff_toInt_le] at h6
    have := t_a1 (x := c) (by omega)
    exact tt_ob (z_putBy h2 hF) (fun _ _ => tt_ob (z_putBy h1 hF) (fun _ _ => tt_ob z_sortOf (fun _ _ => tt_ob z_numberOf (fun _ _ => tt_ob z_hasValue (fun _ _ => tt_if (fun _ => tt_l (by dsimp only; omega)) (fun _ => tt_l (by dsimp only; omega)))))))
  · dsimp only
    rw [t_0]
    omega
  · dsimp only
    rw [t_0]
    omega
theorem wk_pair (h : wkX u0 u) (hG : wkG u0) (hF : 10000 < F) : Tt (g_X9_pair F x y z v u) (fun z => wkX u0 z.2) := by
  unfold g_X9_pair
  have h1 : wkX u0 (sF u 0 13 0) := wx_13 h
  exact tt_lt (tt_num2 (wx_G hG h1) (tt_s h1) (fun o o' ho ho' => tt_if (fun _ => tt_s h1) (fun _ => tt_if (fun _ => tt_ob (k_lay hG h1 ho ho' hF) (fun w h2 => tt_ob z_has0 (fun _ _ => tt_if (fun _ => tt_s h2) (fun _ => tt_if (fun _ => tt_b z_callOne (fun _ _ => h2)) (fun _ => tt_if (fun _ => tt_b z_callOther (fun _ _ => h2)) (fun _ => tt_ob z_callOne (fun _ _ => tt_ob z_read1 (fun _ _ => tt_ob z_callOther (fun _ _ => tt_ob z_read1 (fun _ _ => tt_ob (k_replay h2 ho hF) (fun _ h3 => tt_ob (k_replay h3 ho' hF) (fun _ h4 => tt_b (z_unlike (b_P h4 ho) (b_P h4 ho') hF) (fun _ _ => h4))))))))))))) (fun _ => tt_s h1))))
theorem wx_now (h : wkX u0 u) : rG u 0 7 = rG u0 0 7 := by
  unfold rG
  rw [h.2.2.2]
theorem wk_give (h : wkX u0 u) (hG : wkG u0) : Tt (g_X9_give F x u) (fun z => wkX u0 z.2) := by
  unfold g_X9_give
  rcases (wx_G hG h).1 with e | e
  · rw [show rG u 0 7 = none from e, om_0]
    exact tt_s h
  · rw [show rG u 0 7 = some 116 from e, om_i]
    exact tt_ck (Or.inl rfl) (tt_if (fun _ => tt_b (k_addLast h) (fun _ q => q)) (fun _ => tt_s h))
theorem wk_seed (h : wkX u0 u) : Tt (g_X9_seed F x u) (fun z => wkX u0 z.2) := by
  unfold g_X9_seed
  exact tt_lt (tt_s (wx_n h (by decide) (by decide)))
theorem wk_poke (h : wkX u0 u) (hG : wkG u0) : Tt (g_X9_poke F x y z u) (fun z => wkX u0 z.2) := by
  unfold g_X9_poke
  rcases (wx_G hG h).1 with e | e
  · rw [show rG u 0 7 = none from e, om_0]
    exact tt_s h
  · rw [show rG u 0 7 = some 116 from e]
    simp only [om_i]
    have hr : isRn 116 := Or.inl rfl
    exact tt_ck hr (tt_ck hr (tt_ob z_isFull (fun _ _ => tt_if (fun _ => tt_if (fun _ => tt_s h) (fun _ => tt_if (fun _ => tt_s h) (fun _ => tt_ck hr (tt_ob (k_poke h hr) (fun _ h1 => tt_if (fun _ => tt_s h1) (fun _ => tt_s h1)))))) (fun _ => tt_s h))))
theorem wk_run (h : wkX u0 u) (hG : wkG u0) (hF : 10000 < F) : Tt (g_X9_run F x u) (fun z => wkX u0 z.2) := by
  unfold g_X9_run
  have hr : isRn 116 := Or.inl rfl
  rcases (wx_G hG h).1 with e | e
  · rw [show rG u 0 7 = none from e, om_0]
    exact tt_s h
  · rw [show rG u 0 7 = some 116 from e, om_i]
    have e0 : rG u0 0 7 = some 116 := by rw [← wx_now h]; exact e
    refine tt_ck hr (tt_if (fun _ => tt_s h) (fun h1 => tt_if (fun h2 => tt_b (tt_lp (I := fun s => wkX u0 s.2.2 ∧ 0 ≤ s.1.toInt ∧ s.1.toInt ≤ 500) (m := fun s => (500 - s.1.toInt).toNat) (P := fun z => wkX u0 z.2) ?_ F _ ?_ ?_) (fun _ q => q)) (fun _ => tt_s h)))
    · rintro ⟨a, c, w⟩ ⟨h0, h4, h5⟩
      dsimp only at h0 h4 h5 ⊢
      unfold g_X9_run_l25 g_X9_run_j81
      refine tt_if (fun _ => tt_r h0) (fun _ => tt_if (fun _ => tt_r h0) (fun h6 => ?_))
      rw [Int32.le_iff_toInt_le] at h6
      rw [Int32.le_iff_toInt_le, t_500] at h2
      have := t_a1 (x := a) (by omega)
      rw [wx_now h0, e0]
      simp only [om_i]
      refine tt_ck hr (tt_ob z_canStep (fun _ _ => tt_if (fun _ => tt_r h0) (fun _ => tt_ck hr (tt_ob (k_step h0 hr hF) (fun w' hw' => ?_)))))
      rw [wx_now hw', e0, om_i]
      exact tt_ck hr (tt_ob z_isWatched (fun _ _ => tt_if (fun _ => tt_l ⟨⟨hw', by dsimp only; omega⟩, by dsimp only; omega⟩) (fun _ => tt_l ⟨⟨hw', by dsimp only; omega⟩, by dsimp only; omega⟩)))
    · dsimp only
      rw [t_0]
      omega
    · dsimp only
      rw [t_0]
      exact ⟨h, by omega⟩
theorem wk_back (h : wkX u0 u) (hG : wkG u0) (hF : 10000 < F) : Tt (g_X9_back F x u) (fun z => wkX u0 z.2) := by
  unfold g_X9_back
  have hr : isRn 116 := Or.inl rfl
  have h1 : wkX u0 (sF u 0 13 0) := wx_13 h
  refine tt_lt ?_
  rcases (wx_G hG h1).1 with e | e
  · rw [show rG (sF u 0 13 0) 0 7 = none from e, om_0]
    exact tt_s h1
  · rw [show rG (sF u 0 13 0) 0 7 = some 116 from e]
    have e0 : rG u0 0 7 = some 116 := by rw [← wx_now h1]; exact e
    simp only [om_i]
    refine tt_ck hr (tt_if (fun _ => tt_s h1) (fun _ => tt_ck hr (tt_if (fun _ => tt_ck hr (tt_ob (k_replay h1 hr hF) (fun w hw => ?_))) (fun _ => tt_s h1))))
    rw [wx_now hw, e0, om_i]
    exact tt_ck hr (tt_b (k_goBack hw hr hF) (fun _ q => q))
end WKO
end W_55
section W_56
-- 97zp.weak
/-! the class: every call returns (code, spacing, begin, watch, keep, use), and what lies there first -/
section WKP
variable {F o o' j s : Nat} {x y z v i a b c d e : Int32} {u0 u w : rg_U}
theorem okX_s (h : okX u) (e1 : w.1 = u.1) (e2 : w.2.2 = u.2.2) : okX w := by
  unfold okX wkB wkG
  rw [e1, e2]
  exact h
theorem okX_w (h : okX u) (hX : wkX u w) : okX w := ⟨hX.1, wx_G h.2 hX⟩
theorem okX_n {k : Nat} (h : okX u) (hb : wkN k) : okX (rg_F u k v) := by
  refine ⟨fun p hp => ?_, h.2⟩
  show 0 ≤ (upd u.1 k v p.1).toInt ∧ (upd u.1 k v p.1).toInt ≤ p.2
  rw [pk_un (hb p hp)]
  exact h.1 p hp
theorem okX_start : okX uL_RunsBack := by
  refine ⟨(by decide +kernel : ∀ p, p ∈ wkL → 0 ≤ (uL_RunsBack.1 p.1).toInt ∧ (uL_RunsBack.1 p.1).toInt ≤ p.2), Or.inl rfl, fun k hk => ?_, fun k hk => ?_⟩
  · rcases (show k = 0 ∨ k = 1 ∨ k = 2 ∨ k = 3 by omega) with rfl | rfl | rfl | rfl <;> rfl
  · have h : ∀ k : Fin 101, uL_RunsBack.2.2.2 9 k.val = some (10 + k.val) := by decide +kernel
    exact h ⟨k, hk⟩
/-- code: whether it answers 1, and what it writes -/
theorem c_code : (g_X10_isIn a 0 63 = 0 ∨ g_X10_isFine b c d e = 0) ∧ g_X9_code F a b c d e u = some (0, u) ∨ ∃ k, k < 64 ∧ a = nI k ∧ ¬ g_X10_isFine b c d e = 0 ∧ g_X9_code F a b c d e u = some (1, wr4 u 2 k b c d e) := by
  unfold g_X9_code
  rw [cl_ipl]
  by_cases q : g_X10_isIn a 0 63 = 0
  · exact Or.inl ⟨Or.inl q, by rw [if_pos q]⟩
  rw [if_neg q]
  obtain ⟨k, hk, rfl⟩ := isIn63 q
  have hw : ∀ u, g_X9_code_j28 F (nI k) b c d e u = some (1, wr4 u 2 k b c d e) := fun u => by
    unfold g_X9_code_j28
    rw [c_write hk, ob_i]
    rfl
  rw [hw]
  by_cases q1 : b = -1
  · subst q1
    have z : ¬ g_X10_isFine (-1) c d e = 0 := fun q => absurd (show (1 : Int32) = 0 from q) (by decide)
    rw [if_pos rfl]
    exact Or.inr ⟨k, hk, rfl, z, rfl⟩
  · rw [if_neg q1, instr_fine q1, ob_i]
    by_cases q2 : g_X10_isFine b c d e = 0
    · rw [if_pos q2]; exact Or.inl ⟨Or.inr q2, rfl⟩
    · rw [if_neg q2]; exact Or.inr ⟨k, hk, rfl, q2, rfl⟩
theorem c_spacing : (g_X10_isSpacing x y = 0 ∧ g_X9_spacing F x y u = some (0, u)) ∨ (¬ g_X10_isSpacing x y = 0 ∧ g_X9_spacing F x y u = some (1, sF (sF u 0 9 x) 0 10 y)) := by
  unfold g_X9_spacing
  rw [cl_unit, cl_depth, sp_iff]
  by_cases q : g_X10_isIn x 1 64 = 0
  · rw [if_pos q, if_pos q]; exact Or.inl ⟨rfl, rfl⟩
  rw [if_neg q, if_neg q]
  by_cases q2 : g_X10_isIn y 1 8 = 0
  · rw [if_pos q2]; exact Or.inl ⟨q2, rfl⟩
  · rw [if_neg q2]; exact Or.inr ⟨q2, rfl⟩
theorem ox_code (h : okX u) : Tt (g_X9_code F a b c d e u) (fun z => okX z.2) := by
  rcases c_code (F := F) (a := a) (b := b) (c := c) (d := d) (e := e) (u := u) with q | ⟨k, -, -, -, q⟩
  · exact ⟨_, q.2, h⟩
  · exact ⟨_, q, okX_s h rfl rfl⟩
theorem ox_spacing (h : okX u) : Tt (g_X9_spacing F x y u) (fun z => okX z.2) := by
  rcases c_spacing (F := F) (x := x) (y := y) (u := u) with q | q
  · exact ⟨_, q.2, h⟩
  · exact ⟨_, q.2, okX_n (okX_n h (by decide)) (by decide)⟩
theorem wkB_up {k : Nat} (h : wkB u) (hv : 0 ≤ v.toInt ∧ v.toInt ≤ 3) (hb : ∀ p, p ∈ wkL → p.1 = k → 3 ≤ p.2) : wkB (rg_F u k v) := fun p hp => by
  show 0 ≤ (upd u.1 k v p.1).toInt ∧ (upd u.1 k v p.1).toInt ≤ p.2
  by_cases q : p.1 = k
  · rw [q, pk_us]
    have := hb p hp q
    exact ⟨hv.1, by omega⟩
  · rw [pk_un q]; exact h p hp
theorem ox_begin (h : okX u) (hF : 10000 < F) : Tt (g_X9_begin F u) (fun z => okX z.2) := by
  obtain ⟨v, h0, -, e⟩ := c_begin (u := u) hF
  refine ⟨_, e, ?_⟩
  have hv : wkB v := fun p hp => by
    rw [h0.1]
    exact h.1 p hp
  have hG : wkG v := by
    unfold wkG
    rw [h0.2]
    exact ⟨Or.inr rfl, h.2.2⟩
  refine ⟨?_, hG⟩
  have z0 : 0 ≤ (0 : Int32).toInt ∧ (0 : Int32).toInt ≤ 3 := by decide
  have z1 : 0 ≤ (1 : Int32).toInt ∧ (1 : Int32).toInt ≤ 3 := by decide
  unfold c_begun
  have n1 : ∀ {k : Nat} {u : rg_U} {v : Int32}, wkB u → wkN k → wkB (rg_F u k v) := fun {k u v} hu hb p hp => by
    show 0 ≤ (upd u.1 k v p.1).toInt ∧ (upd u.1 k v p.1).toInt ≤ p.2
    rw [pk_un (hb p hp)]
    exact hu p hp
  repeat' first
    | exact hv
    | refine wkB_up ?_ z0 (by decide)
    | refine wkB_up ?_ z1 (by decide)
    | refine n1 ?_ (by decide)
    | (show wkB _; assumption)
theorem ox_watch (h : okX u) : Tt (g_X9_watch F x y u) (fun z => okX z.2) := by
  unfold g_X9_watch
  exact tt_if (fun _ => tt_s h) (fun _ => tt_ob z_isWatched (fun _ _ => tt_if (fun _ => tt_s h) (fun _ => tt_if (fun _ => tt_lt (tt_s (okX_n h (by decide)))) (fun _ => tt_lt (tt_s (okX_n h (by decide)))))))
theorem ox_use (h : okX u) : Tt (g_X9_use F x u) (fun z => okX z.2) := by
  unfold g_X9_use
  exact tt_if (fun _ => tt_lt (tt_s (okX_n h (by decide)))) (fun _ => tt_ob z_isKept (fun _ _ => tt_if (fun _ => tt_s h) (fun _ => tt_lt (tt_s (okX_n h (by decide))))))
/-- keep: refused, or the room of its number is filled -/
theorem c_keepW (h : okX u) (hF : 10000 < F) : (¬ (rG u 0 7 = some 116 ∧ (rF u 0 6).toInt < 4) ∧ g_X9_keep F u = some (-1, u)) ∨ ∃ k w, k < 4 ∧ rG u 0 7 = some 116 ∧ rF u 0 6 = nI k ∧ wkX u w ∧ g_X9_keep F u = some (nI k, sF w 0 6 (nI (k + 1))) := by
  have hX := wx_r h.1
  have h6 : 0 ≤ (rF u 0 6).toInt ∧ (rF u 0 6).toInt ≤ 4 := h.1 (6, 4) (by decide)
  obtain ⟨r, e, hr⟩ := z_room (F := F) (x := rF u 0 6) h.2
  unfold g_X9_keep
  rw [e, ob_i]
  by_cases q : (rF u 0 6).toInt < 4
  · obtain ⟨k, hk, ek, er⟩ := hr.1 ⟨h6.1, q⟩
    rw [er, om_i, ck_t (rn_room hk)]
    rcases h.2.1 with e7 | e7
    · rw [show rG u 0 7 = none from e7, om_0]
      exact Or.inl ⟨fun z => (by have := z.1; cases this), rfl⟩
    · rw [show rG u 0 7 = some 116 from e7]
      simp only [om_i]
      have h116 : isRn 116 := Or.inl rfl
      rw [ck_t h116, ck_t h116, ck_t h116]
      obtain ⟨st, est, -⟩ := z_status (F := F) (o := 116) (u := u)
      obtain ⟨w, ew, hw⟩ := k_take7 (F := F) (o := 151 + 34 * k) (o' := 116) (x := st) hX (rn_room hk) h116 (by omega) hF
      rw [est, ob_i, ew, ob_i, lt1_i]
      have e6 : rF w 0 6 = nI k := by rw [← ek]; exact hw.2.1 6 (by decide)
      refine Or.inr ⟨k, w, hk, trivial, ek, hw, ?_⟩
      rw [e6, nI_1]
      have : rF (sF w 0 6 (nI (k + 1))) 0 6 - 1 = nI k := by
        show nI (k + 1) - 1 = nI k
        exact nI_pred k
      rw [this]
  · have er := hr.2 (fun z => by have := z.2; omega)
    rw [er, om_0]
    rcases h.2.1 with e7 | e7
    · rw [show rG u 0 7 = none from e7, om_0]
      exact Or.inl ⟨fun z => (by have := z.1; cases this), rfl⟩
    · rw [show rG u 0 7 = some 116 from e7, om_i, ck_t (Or.inl rfl)]
      exact Or.inl ⟨fun z => q z.2, rfl⟩
theorem ox_keep (h : okX u) (hF : 10000 < F) : Tt (g_X9_keep F u) (fun z => okX z.2) := by
  rcases c_keepW h hF with q | ⟨k, w, hk, -, -, hw, e⟩
  · exact ⟨_, q.2, h⟩
  · refine ⟨_, e, fun p hp => ?_, (show wkG w from wx_G h.2 hw)⟩
    show 0 ≤ (upd w.1 6 (nI (k + 1)) p.1).toInt ∧ (upd w.1 6 (nI (k + 1)) p.1).toInt ≤ p.2
    by_cases q : p.1 = 6
    · rw [q, pk_us, nI_toInt (by omega)]
      have : p.2 = 4 := (show wkT 6 4 by decide) p hp q
      omega
    · rw [pk_un q]; exact hw.1 p hp
end WKP
end W_56
section W_57
-- 97zq.puts
/-! the class's table of puts: which put a place has, by when -/
theorem ms_d0 {k : Nat} (h0 : 0 < k) (h : k < 2 ^ 31) : (nI k + -1).toInt.toNat < (nI k).toInt.toNat := by
  have e : nI k + -1 = nI (k - 1) := by
    have := nI_dec (k := k - 1)
    rwa [show k - 1 + 1 = k by omega] at this
  rw [e, nI_toInt (by omega), nI_toInt h, Int.toNat_natCast, Int.toNat_natCast]
  omega
theorem ms_d1 {k : Nat} (h : k < 2 ^ 31) : ((nI k + -1).toInt + 1).toNat < ((nI k).toInt + 1).toNat := by
  have t1 := nI_toInt h
  generalize nI k = x at t1 ⊢
  have t2 := t_d1 (x := x) (by omega)
  generalize (x + -1).toInt = y at t2 ⊢
  omega
theorem ms_u {k C : Nat} (hk : k < C) (h : C < 2 ^ 31) : ((C : Int) - (nI k + 1).toInt).toNat < ((C : Int) - (nI k).toInt).toNat := by
  have t1 := nI_toInt (n := k) (by omega)
  generalize nI k = x at t1 ⊢
  have t2 := t_a1 (x := x) (by omega)
  generalize (x + 1).toInt = y at t2 ⊢
  omega
theorem ms_i {N F : Nat} (h : N < F) (hN : N < 2 ^ 31) : ((nI N - 1).toInt + 1).toNat < F := by
  have t1 := nI_toInt hN
  generalize nI N = x at t1 ⊢
  have t2 := t_s1 (x := x) (by omega)
  generalize (x - 1).toInt = y at t2 ⊢
  omega
theorem ms_n {N F : Nat} (h : N < F) (hN : N < 2 ^ 31) : (nI N).toInt.toNat < F := by
  rw [nI_toInt hN, Int.toNat_natCast]
  exact h
theorem ms_0 {C F : Nat} (h : C < F) : ((C : Int) - (0 : Int32).toInt).toNat < F := by
  rw [t_0, Int.sub_zero, Int.toNat_natCast]
  exact h
def isPt (N : Nat) (x : Int32) : Prop := x = -1 ∨ ∃ n, n < N ∧ x = nI n
/-- what a put has; d without one -/
def vS (f : Nat → Int32) (d x : Int32) : Int32 := if x = -1 then d else f (tn x)
theorem vS_0 {f : Nat → Int32} {d : Int32} : vS f d (-1) = d := if_pos rfl
theorem vS_n {f : Nat → Int32} {d : Int32} {n : Nat} (h : n < 2 ^ 31) : vS f d (nI n) = f n := by
  unfold vS
  rw [if_neg (nI_m1 h), tnn h]
/-- the latest put to p ahead of the n-th -/
def lat (pp : Nat → Int32) (p : Nat) : Nat → Int32
  | 0 => -1
  | n + 1 => if pp n = nI p then nI n else lat pp p n
theorem lat_y {pp : Nat → Int32} {p n : Nat} (h : pp n = nI p) : lat pp p (n + 1) = nI n := if_pos h
theorem lat_n {pp : Nat → Int32} {p n : Nat} (h : ¬ pp n = nI p) : lat pp p (n + 1) = lat pp p n := if_neg h
theorem lat_pt {pp : Nat → Int32} {p : Nat} : ∀ N, isPt N (lat pp p N)
  | 0 => Or.inl rfl
  | n + 1 => by
    by_cases h : pp n = nI p
    · rw [lat_y h]; exact Or.inr ⟨n, Nat.lt_succ_self n, rfl⟩
    · rw [lat_n h]
      rcases lat_pt (pp := pp) (p := p) n with q | ⟨k, hk, q⟩
      · exact Or.inl q
      · exact Or.inr ⟨k, by omega, q⟩
theorem isPt_le {M N : Nat} {x : Int32} (h : isPt M x) (hMN : M ≤ N) : isPt N x := by
  rcases h with q | ⟨k, hk, q⟩
  · exact Or.inl q
  · exact Or.inr ⟨k, by omega, q⟩
theorem lat_c {pp pp' : Nat → Int32} {p : Nat} : ∀ N, (∀ n, n < N → pp' n = pp n) → lat pp' p N = lat pp p N
  | 0, _ => rfl
  | n + 1, h => by
    unfold lat
    rw [h n (by omega), lat_c n (fun k hk => h k (by omega))]
/-- what the latest one is -/
theorem lat_some {pp : Nat → Int32} {p n : Nat} : ∀ N, N < 2 ^ 31 → lat pp p N = nI n → n < 2 ^ 31 → n < N ∧ pp n = nI p ∧ ∀ k, n < k → k < N → ¬ pp k = nI p
  | 0, _, h, hn => absurd h.symm (nI_m1 hn)
  | N + 1, hN, h, hn => by
    by_cases q : pp N = nI p
    · rw [lat_y q] at h
      have := nI_inj (by omega) hn h
      subst this
      exact ⟨Nat.lt_succ_self _, q, fun k h1 h2 => by omega⟩
    · rw [lat_n q] at h
      obtain ⟨a, b, c⟩ := lat_some N (by omega) h hn
      refine ⟨by omega, b, fun k h1 h2 => ?_⟩
      rcases Nat.lt_or_ge k N with y | y
      · exact c k h1 y
      · rw [show k = N by omega]; exact q
theorem lat_none {pp : Nat → Int32} {p : Nat} : ∀ N, N < 2 ^ 31 → lat pp p N = -1 → ∀ k, k < N → ¬ pp k = nI p
  | 0, _, _, k, hk => by omega
  | N + 1, hN, h, k, hk => by
    by_cases q : pp N = nI p
    · rw [lat_y q] at h
      exact absurd h (nI_m1 (by omega))
    · rw [lat_n q] at h
      rcases Nat.lt_or_ge k N with y | y
      · exact lat_none N (by omega) h k y
      · rw [show k = N by omega]; exact q
/-- none between: the latest is the same -/
theorem lat_skip {pp : Nat → Int32} {p M : Nat} : ∀ N, M ≤ N → (∀ k, M ≤ k → k < N → ¬ pp k = nI p) → lat pp p N = lat pp p M
  | 0, h, _ => by rw [show M = 0 by omega]
  | N + 1, h, hk => by
    rcases Nat.lt_or_ge N M with y | y
    · rw [show M = N + 1 by omega]
    · rw [lat_n (hk N y (by omega))]
      exact lat_skip N y (fun k h1 h2 => hk k h1 (by omega))
theorem lat_at {pp : Nat → Int32} {p n N : Nat} (hn : n < N) (h : pp n = nI p) (hk : ∀ k, n < k → k < N → ¬ pp k = nI p) : lat pp p N = nI n := by
  rw [lat_skip (M := n + 1) N hn (fun k h1 h2 => hk k h1 h2), lat_y h]
/-- how many came by t -/
def cP (pt : Nat → Int32) (t : Nat) : Nat → Nat
  | 0 => 0
  | n + 1 => if tn (pt n) ≤ t then n + 1 else cP pt t n
def monoP (pt : Nat → Int32) (N : Nat) : Prop := ∀ i j, i < j → j < N → tn (pt i) ≤ tn (pt j)
theorem cP_le {pt : Nat → Int32} {t : Nat} : ∀ N, cP pt t N ≤ N
  | 0 => Nat.le_refl _
  | n + 1 => by
    unfold cP
    have := cP_le (pt := pt) (t := t) n
    split <;> omega
theorem cP_c {pt pt' : Nat → Int32} {t : Nat} : ∀ N, (∀ n, n < N → pt' n = pt n) → cP pt' t N = cP pt t N
  | 0, _ => rfl
  | n + 1, h => by
    unfold cP
    rw [h n (by omega), cP_c n (fun k hk => h k (by omega))]
theorem cP_y {pt : Nat → Int32} {t n : Nat} (h : tn (pt n) ≤ t) : cP pt t (n + 1) = n + 1 := if_pos h
theorem cP_n {pt : Nat → Int32} {t n : Nat} (h : ¬ tn (pt n) ≤ t) : cP pt t (n + 1) = cP pt t n := if_neg h
theorem cP_iff {pt : Nat → Int32} {t : Nat} : ∀ N, monoP pt N → ∀ n, n < N → (n < cP pt t N ↔ tn (pt n) ≤ t)
  | 0, _, n, hn => by omega
  | N + 1, hm, n, hn => by
    by_cases q : tn (pt N) ≤ t
    · rw [cP_y q]
      refine ⟨fun _ => ?_, fun _ => hn⟩
      rcases Nat.lt_or_ge n N with y | y
      · exact Nat.le_trans (hm n N y (by omega)) q
      · rw [show n = N by omega]; exact q
    · rw [cP_n q]
      rcases Nat.lt_or_ge n N with y | y
      · exact cP_iff N (fun i j h1 h2 => hm i j h1 (by omega)) n y
      · rw [show n = N by omega]
        have := cP_le (pt := pt) (t := t) N
        exact ⟨fun z => by omega, fun z => absurd z q⟩
theorem cP_all {pt : Nat → Int32} {t : Nat} {N : Nat} (h : ∀ n, n < N → tn (pt n) ≤ t) : cP pt t N = N := by
  cases N with
  | zero => rfl
  | succ n => exact cP_y (h n (by omega))
theorem cP_up {pt : Nat → Int32} {t M : Nat} : ∀ N, M ≤ N → (∀ k, M ≤ k → k < N → ¬ tn (pt k) ≤ t) → cP pt t N = cP pt t M
  | 0, h, _ => by rw [show M = 0 by omega]
  | N + 1, h, hk => by
    rcases Nat.lt_or_ge N M with y | y
    · rw [show M = N + 1 by omega]
    · rw [cP_n (hk N y (by omega))]
      exact cP_up N y (fun k h1 h2 => hk k h1 (by omega))
theorem cP_mono {pt : Nat → Int32} {s t : Nat} (h : s ≤ t) : ∀ N, cP pt s N ≤ cP pt t N
  | 0 => Nat.le_refl _
  | N + 1 => by
    by_cases q : tn (pt N) ≤ s
    · rw [cP_y q, cP_y (by omega)]; exact Nat.le_refl _
    · rw [cP_n q]
      have := cP_mono (pt := pt) h N
      by_cases q2 : tn (pt N) ≤ t
      · rw [cP_y q2]
        have := cP_le (pt := pt) (t := s) N
        omega
      · rw [cP_n q2]; exact this
/-- what lies in the table, up to time T -/
def PI (u : rg_U) (q T N : Nat) : Prop := rF u q 11 = nI N ∧ N ≤ 3800 ∧ T ≤ 3000 ∧ monoP (u.2.1 (q + 1)) N ∧ (∀ p, p < 40 → u.2.1 (q + 11) p = lat (u.2.1 (q + 2)) p N) ∧ ∀ n, n < N → ∃ s p, s ≤ T ∧ p < 40 ∧ u.2.1 (q + 1) n = nI s ∧ u.2.1 (q + 2) n = nI p ∧ u.2.1 (q + 6) n = lat (u.2.1 (q + 2)) p n ∧ u.2.1 (q + 5) n = vS (u.2.1 (q + 5)) 0 (u.2.1 (q + 6) n) + (if vS (u.2.1 (q + 3)) 0 (u.2.1 (q + 6) n) = u.2.1 (q + 3) n ∧ vS (u.2.1 (q + 4)) 0 (u.2.1 (q + 6) n) = u.2.1 (q + 4) n then 0 else 1)
/-- a row as the first n puts make it -/
def PRow (u : rg_U) (q n : Nat) (m : Row) : Prop := ∀ p, p < 40 → m p = vS (u.2.1 (q + 3)) 0 (lat (u.2.1 (q + 2)) p n) ∧ m (40 + p) = vS (u.2.1 (q + 4)) 0 (lat (u.2.1 (q + 2)) p n) ∧ m (80 + p) = vS (u.2.1 (q + 5)) 0 (lat (u.2.1 (q + 2)) p n)
section XP
variable {F q T N : Nat} {x y z : Int32} {u : rg_U}
theorem pt_lt {n : Nat} (hN : N ≤ 3800) (h : n < N) : n < 2 ^ 31 := by omega
theorem x6_has_y {n : Nat} (hN : rF u q 11 = nI N) (h8 : N ≤ 3800) (h : n < N) : g_X6_has F q (nI n) u = some 1 := by
  unfold g_X6_has
  rw [if_neg (nI_pos (by omega)), hN, if_neg (nI_ge h (by omega)), if_neg (show ¬ (3800 : Int32) ≤ nI n from nI_ge (a := n) (b := 3800) (by omega) (by decide))]
theorem x6_has_n : g_X6_has F q (-1) u = some 0 := by
  unfold g_X6_has
  rw [if_pos (by decide)]
theorem x6_time (hN : rF u q 11 = nI N) (h8 : N ≤ 3800) (h : isPt N x) : g_X6_timeOf F q x u = some (vS (u.2.1 (q + 1)) 0 x) := by
  unfold g_X6_timeOf
  rcases h with rfl | ⟨n, hn, rfl⟩
  · rw [x6_has_n, ob_i, if_pos rfl, vS_0]
  · rw [x6_has_y hN h8 hn, ob_i, if_neg (by decide), ck_t (inb_nI (by omega) (by decide)), rA_nI (by omega), vS_n (by omega)]
theorem x6_place (hN : rF u q 11 = nI N) (h8 : N ≤ 3800) (h : isPt N x) : g_X6_placeOf F q x u = some (vS (u.2.1 (q + 2)) (-1) x) := by
  unfold g_X6_placeOf
  rcases h with rfl | ⟨n, hn, rfl⟩
  · rw [x6_has_n, ob_i, if_pos rfl, vS_0]
  · rw [x6_has_y hN h8 hn, ob_i, if_neg (by decide), ck_t (inb_nI (by omega) (by decide)), rA_nI (by omega), vS_n (by omega)]
theorem x6_changes (hN : rF u q 11 = nI N) (h8 : N ≤ 3800) (h : isPt N x) : g_X6_changesOf F q x u = some (vS (u.2.1 (q + 5)) 0 x) := by
  unfold g_X6_changesOf
  rcases h with rfl | ⟨n, hn, rfl⟩
  · rw [x6_has_n, ob_i, if_pos rfl, vS_0]
  · rw [x6_has_y hN h8 hn, ob_i, if_neg (by decide), ck_t (inb_nI (by omega) (by decide)), rA_nI (by omega), vS_n (by omega)]
theorem x6_ahead (hN : rF u q 11 = nI N) (h8 : N ≤ 3800) (h : isPt N x) : g_X6_aheadOf F q x u = some (vS (u.2.1 (q + 6)) (-1) x) := by
  unfold g_X6_aheadOf
  rcases h with rfl | ⟨n, hn, rfl⟩
  · rw [x6_has_n, ob_i, if_pos rfl, vS_0]
  · rw [x6_has_y hN h8 hn, ob_i, if_neg (by decide), ck_t (inb_nI (by omega) (by decide)), rA_nI (by omega), vS_n (by omega)]
theorem x6_sort (hN : rF u q 11 = nI N) (h8 : N ≤ 3800) (h : isPt N x) : g_X6_sortOf F q x u = some (vS (u.2.1 (q + 3)) 0 x) := by
  unfold g_X6_sortOf
  rcases h with rfl | ⟨n, hn, rfl⟩
  · rw [if_pos (by decide), vS_0]
  · rw [if_neg (nI_pos (by omega)), hN, if_neg (nI_ge hn (by omega)), if_neg (show ¬ (3800 : Int32) ≤ nI n from nI_ge (a := n) (b := 3800) (by omega) (by decide)), ck_t (inb_nI (by omega) (by decide)), rA_nI (by omega), vS_n (by omega)]
theorem x6_number (hN : rF u q 11 = nI N) (h8 : N ≤ 3800) (h : isPt N x) : g_X6_numberOf F q x u = some (vS (u.2.1 (q + 4)) 0 x) := by
  unfold g_X6_numberOf
  rcases h with rfl | ⟨n, hn, rfl⟩
  · rw [if_pos (by decide), vS_0]
  · rw [if_neg (nI_pos (by omega)), hN, if_neg (nI_ge hn (by omega)), if_neg (show ¬ (3800 : Int32) ≤ nI n from nI_ge (a := n) (b := 3800) (by omega) (by decide)), ck_t (inb_nI (by omega) (by decide)), rA_nI (by omega), vS_n (by omega)]
theorem x6_value {s n : Int32} (hN : rF u q 11 = nI N) (h8 : N ≤ 3800) (h : isPt N x) : g_X6_hasValue F q x s n u = some (if vS (u.2.1 (q + 3)) 0 x = s ∧ vS (u.2.1 (q + 4)) 0 x = n then 1 else 0) := by
  unfold g_X6_hasValue
  rw [x6_sort hN h8 h, ob_i]
  by_cases a : vS (u.2.1 (q + 3)) 0 x = s
  · rw [if_pos a, x6_number hN h8 h, ob_i]
    by_cases b : vS (u.2.1 (q + 4)) 0 x = n
    · rw [if_pos b, if_pos ⟨a, b⟩]
    · rw [if_neg b, if_neg (fun z => b z.2)]
  · rw [if_neg a, if_neg (fun z => a z.1)]
theorem x6_latest {p : Nat} (hp : p < 40) : g_X6_latestOf F q (nI p) u = some (u.2.1 (q + 11) p) := by
  unfold g_X6_latestOf
  rw [if_neg (by rw [cl_place]; exact in_nI (a := 0) (b := 39) (by omega) (by omega) (by decide)), ck_t (inb_nI hp (by decide)), rA_nI (by omega)]
theorem PI_N (h : PI u q T N) : rF u q 11 = nI N := h.1
theorem PI_8 (h : PI u q T N) : N ≤ 3800 := h.2.1
theorem lat_ok {p n : Nat} {pp : Nat → Int32} (hn : n ≤ N) : isPt N (lat pp p n) := isPt_le (lat_pt n) hn
theorem tt_eq {α : Type} {x : Option α} {y : α} (h : Tt x (fun r => r = y)) : x = some y := by
  obtain ⟨r, e, hr⟩ := h
  rw [e, hr]
theorem eq_tt {α : Type} {x : Option α} {y : α} {P : α → Prop} (h : x = some y) (hP : P y) : Tt x P := ⟨y, h, hP⟩
theorem PI_t {n t : Nat} (h : PI u q T N) (hn : n < N) (ht : t < 2 ^ 31) : u.2.1 (q + 1) n ≤ nI t ↔ tn (u.2.1 (q + 1) n) ≤ t := by
  obtain ⟨s, p, hs, -, e, -⟩ := h.2.2.2.2.2 n hn
  have := h.2.2.1
  rw [e, tnn (by omega), nI_leI (by omega) ht]
/-- the put that a place has by t -/
theorem c_putBy {t p : Nat} (h : PI u q T N) (hp : p < 40) (ht : t < 2 ^ 31) (hF : 10000 < F) : g_X6_putBy F q (nI t) (nI p) u = some (lat (u.2.1 (q + 2)) p (cP (u.2.1 (q + 1)) t N)) := by
  obtain ⟨hN, h8, hT, hm, hl, hx⟩ := id h
  unfold g_X6_putBy
  rw [x6_latest hp, ob_i, hl p hp, hN]
  refine tt_eq (tt_b (tt_lp (I := fun s => ∃ M k : Nat, s.1 = lat (u.2.1 (q + 2)) p M ∧ s.2 = nI k ∧ M ≤ N ∧ cP (u.2.1 (q + 1)) t N ≤ M ∧ M ≤ k ∧ k ≤ N) (m := fun s => s.2.toInt.toNat) (P := fun r => r = lat (u.2.1 (q + 2)) p (cP (u.2.1 (q + 1)) t N)) ?_ F _ ?_ ?_) (fun _ q => q))
  · rintro ⟨a, b⟩ ⟨M, k, ea, eb, h1, h2, h3, h4⟩
    dsimp only at ea eb ⊢
    subst ea eb
    unfold g_X6_putBy_l12
    by_cases k0 : k = 0
    · have e0 : M = 0 := by omega
      have ec : cP (u.2.1 (q + 1)) t N = 0 := by omega
      subst k0 e0
      rw [if_pos (by decide), ec]
      exact tt_r rfl
    rw [if_neg (nI_nle (by omega) (by omega))]
    rcases lat_pt (pp := u.2.1 (q + 2)) (p := p) M with e | ⟨n, hn, e⟩
    · have e2 : lat (u.2.1 (q + 2)) p (cP (u.2.1 (q + 1)) t N) = -1 := by
        rw [← lat_skip M h2 (fun k _ h2 => lat_none M (by omega) e k h2)]
        exact e
      rw [e, x6_time hN h8 (Or.inl rfl), ob_i, vS_0, if_pos (nI_pos' ht), e2]
      exact tt_r rfl
    · obtain ⟨a1, a2, a3⟩ := lat_some M (by omega) e (by omega)
      obtain ⟨s, p', hs, hp', b1, b2, b3, -⟩ := hx n (by omega)
      have epp : p' = p := nI_inj (by omega) (by omega) (b2.symm.trans a2)
      subst epp
      rw [e, x6_time hN h8 (Or.inr ⟨n, by omega, rfl⟩), ob_i, vS_n (by omega)]
      by_cases c : n < cP (u.2.1 (q + 1)) t N
      · rw [lat_at (N := cP (u.2.1 (q + 1)) t N) c a2 (fun k h3 h4 => a3 k h3 (by omega)), if_pos ((PI_t h (by omega) ht).mpr ((cP_iff N hm n (by omega)).mp c))]
        exact tt_r rfl
      · rw [if_neg (fun z => c ((cP_iff N hm n (by omega)).mpr ((PI_t h (by omega) ht).mp z))), x6_ahead hN h8 (Or.inr ⟨n, by omega, rfl⟩), ob_i, vS_n (by omega), b3]
        refine tt_l ⟨⟨n, k - 1, rfl, ?_, by omega, by omega, by omega, by omega⟩, ?_⟩
        · show nI k + -1 = nI (k - 1)
          have := nI_dec (k := k - 1)
          rwa [show k - 1 + 1 = k by omega] at this
        · exact ms_d0 (by omega) (by omega)
  · exact ms_n (by omega) (by omega)
  · exact ⟨N, N, rfl, rfl, Nat.le_refl _, cP_le N, Nat.le_refl _, Nat.le_refl _⟩
end XP
end W_57
section W_58
-- 97zr.puts
/-! the class's table of puts: one more, and back -/
theorem R_n {u : rg_U} {j j' i : Nat} {v : Int32} (h : j' ≠ j) : (rg_R u j i v).2.1 j' = u.2.1 j' := pm_up_n h
theorem R_s {u : rg_U} {j i : Nat} {v : Int32} : (rg_R u j i v).2.1 j = upd (u.2.1 j) i v := pm_up_s
theorem F_2 {u : rg_U} {k : Nat} {v : Int32} : (rg_F u k v).2 = u.2 := rfl
theorem sF_A {u : rg_U} {j s : Nat} {v : Int32} : (sF u j s v).2.1 = u.2.1 := rfl
theorem sF_y {u : rg_U} {j s : Nat} {v : Int32} : rF (sF u j s v) j s = v := by
  show upd u.1 _ v _ = v
  rw [pk_us]
theorem sF_n {u : rg_U} {j s k : Nat} {v : Int32} (h : k ≠ 100 * j + s) : (sF u j s v).1 k = u.1 k := by
  show upd u.1 _ v k = _
  rw [pk_un h]
def addS (u : rg_U) (q N p : Nat) (x s n ch old : Int32) : rg_U := sF (rg_R (rg_R (rg_R (rg_R (rg_R (rg_R (rg_R u (q + 1) N x) (q + 2) N (nI p)) (q + 3) N s) (q + 4) N n) (q + 5) N ch) (q + 6) N old) (q + 11) p (nI N)) q 11 (nI (N + 1))
def restS (u : rg_U) (q N : Nat) (a b c d : Int32) : rg_U := rg_R (rg_R (rg_R (rg_R u (q + 7) N a) (q + 8) N b) (q + 9) N c) (q + 10) N d
/-- whether a put has a value -/
abbrev sameV (u : rg_U) (q : Nat) (x s n : Int32) : Prop := vS (u.2.1 (q + 3)) 0 x = s ∧ vS (u.2.1 (q + 4)) 0 x = n
section XA
variable {F q T N p : Nat} {x s n ch old a b c d : Int32} {u : rg_U}
theorem addS_1 : (addS u q N p x s n ch old).2.1 (q + 1) = upd (u.2.1 (q + 1)) N x := by
  unfold addS
  rw [sF_A, R_n (by omega), R_n (by omega), R_n (by omega), R_n (by omega), R_n (by omega), R_n (by omega), R_s]
theorem addS_2 : (addS u q N p x s n ch old).2.1 (q + 2) = upd (u.2.1 (q + 2)) N (nI p) := by
  unfold addS
  rw [sF_A, R_n (by omega), R_n (by omega), R_n (by omega), R_n (by omega), R_n (by omega), R_s, R_n (by omega)]
theorem addS_3 : (addS u q N p x s n ch old).2.1 (q + 3) = upd (u.2.1 (q + 3)) N s := by
  unfold addS
  rw [sF_A, R_n (by omega), R_n (by omega), R_n (by omega), R_n (by omega), R_s, R_n (by omega), R_n (by omega)]
theorem addS_4 : (addS u q N p x s n ch old).2.1 (q + 4) = upd (u.2.1 (q + 4)) N n := by
  unfold addS
  rw [sF_A, R_n (by omega), R_n (by omega), R_n (by omega), R_s, R_n (by omega), R_n (by omega), R_n (by omega)]
theorem addS_5 : (addS u q N p x s n ch old).2.1 (q + 5) = upd (u.2.1 (q + 5)) N ch := by
  unfold addS
  rw [sF_A, R_n (by omega), R_n (by omega), R_s, R_n (by omega), R_n (by omega), R_n (by omega), R_n (by omega)]
theorem addS_6 : (addS u q N p x s n ch old).2.1 (q + 6) = upd (u.2.1 (q + 6)) N old := by
  unfold addS
  rw [sF_A, R_n (by omega), R_s, R_n (by omega), R_n (by omega), R_n (by omega), R_n (by omega), R_n (by omega)]
theorem addS_11 : (addS u q N p x s n ch old).2.1 (q + 11) = upd (u.2.1 (q + 11)) p (nI N) := by
  unfold addS
  rw [sF_A, R_s, R_n (by omega), R_n (by omega), R_n (by omega), R_n (by omega), R_n (by omega), R_n (by omega)]
theorem addS_n {j : Nat} (h : j < q + 1 ∨ (q + 6 < j ∧ j ≠ q + 11)) : (addS u q N p x s n ch old).2.1 j = u.2.1 j := by
  unfold addS
  rw [sF_A, R_n (by omega), R_n (by omega), R_n (by omega), R_n (by omega), R_n (by omega), R_n (by omega), R_n (by omega)]
theorem addS_f {k : Nat} (h : k ≠ 100 * q + 11) : (addS u q N p x s n ch old).1 k = u.1 k := sF_n h
theorem addS_g : (addS u q N p x s n ch old).2.2 = u.2.2 := rfl
theorem restS_n {j : Nat} (h : j < q + 7 ∨ q + 10 < j) : (restS u q N a b c d).2.1 j = u.2.1 j := by
  unfold restS
  rw [R_n (by omega), R_n (by omega), R_n (by omega), R_n (by omega)]
theorem restS_f : (restS u q N a b c d).1 = u.1 := rfl
theorem restS_g : (restS u q N a b c d).2.2 = u.2.2 := rfl
theorem c_add6 (hN : rF u q 11 = nI N) (h8 : N < 3800) (hp : p < 40) (hl : isPt N (u.2.1 (q + 11) p)) : g_X6_add F q x (nI p) s n u = some ((if sameV u q (u.2.1 (q + 11) p) s n then 0 else 1), addS u q N p x s n (vS (u.2.1 (q + 5)) 0 (u.2.1 (q + 11) p) + (if sameV u q (u.2.1 (q + 11) p) s n then 0 else 1)) (u.2.1 (q + 11) p)) := by
  have hi : inb (nI N) 3800 := inb_nI h8 (by decide)
  have hip : inb (nI p) 40 := inb_nI hp (by decide)
  have e : ∀ (v : rg_U) (j : Nat) (x : Int32), rF v q 11 = nI N → rF (rg_R v j N x) q 11 = nI N := fun v j x h => h
  have j118 : ∀ (w : rg_U) (l5 l6 s0 s1 : Int32), rF w q 11 = nI N → (l6 = 0 ∨ l6 = 1) → g_X6_add_j118 F q (nI p) l5 l6 s0 s1 (nI N) w = some (l6, sF (rg_R (rg_R (rg_R w (q + 5) N (s1 + s0)) (q + 6) N l5) (q + 11) p (nI N)) q 11 (nI (N + 1))) := by
    intro w l5 l6 s0 s1 hw h6
    unfold g_X6_add_j118
    rw [ck_t hi, lt1_i, sA_nI (k := N) (by omega), e _ _ _ hw, ck_t hi, lt1_i, sA_nI (k := N) (by omega), e _ _ _ (e _ _ _ hw), ck_t hip, lt1_i, sA_nI (k := p) (by omega)]
    have e3 : rF (rg_R (rg_R (rg_R w (q + 5) N (s1 + s0)) (q + 6) N l5) (q + 11) p (nI N)) q 11 = nI N := hw
    rw [e3, lt1_i, ck_t h6, nI_1]
  have j51 : ∀ s0 : Int32, (s0 = 0 ∨ s0 = 1) → g_X6_add_j51 F q x (nI p) s n (u.2.1 (q + 11) p) s0 u = some (s0, addS u q N p x s n (vS (u.2.1 (q + 5)) 0 (u.2.1 (q + 11) p) + s0) (u.2.1 (q + 11) p)) := by
    intro s0 h0
    unfold g_X6_add_j51
    rw [hN, ck_t hi, lt1_i, sA_nI (by omega), e _ _ _ hN, ck_t hi, lt1_i, sA_nI (by omega), e _ _ _ (e _ _ _ hN), ck_t hi, lt1_i, sA_nI (by omega), e _ _ _ (e _ _ _ (e _ _ _ hN)), ck_t hi, lt1_i, sA_nI (by omega)]
    have hw : rF (rg_R (rg_R (rg_R (rg_R u (q + 1) N x) (q + 2) N (nI p)) (q + 3) N s) (q + 4) N n) q 11 = nI N := hN
    rw [x6_changes hw (by omega) hl, ob_i, hw, R_n (by omega), R_n (by omega), R_n (by omega), R_n (by omega)]
    rcases h0 with rfl | rfl
    · rw [if_pos rfl, j118 _ _ _ _ _ hw (Or.inl rfl)]
      rfl
    · rw [if_neg (by decide), j118 _ _ _ _ _ hw (Or.inr rfl)]
      rfl
  unfold g_X6_add
  rw [if_neg (by rw [cl_place]; exact in_nI (a := 0) (b := 39) (by omega) (by omega) (by decide)), hN, if_neg (nI_pos (by omega)), if_pos (show nI N < 3800 from nI_lt (a := N) (b := 3800) h8 (by decide)), ck_t hip, rA_nI (by omega), x6_value hN (by omega) hl, ob_i]
  by_cases h : sameV u q (u.2.1 (q + 11) p) s n
  · rw [if_pos h, if_neg (by decide), j51 0 (Or.inl rfl), if_pos h]
  · rw [if_neg h, if_pos rfl, j51 1 (Or.inr rfl), if_neg h]
theorem c_rest (hN : rF u q 11 = nI (N + 1)) (h8 : N < 3800) : g_X6_restLatestOn F q a b c d u = some (restS u q N a b c d) := by
  have hi : inb (nI N) 3800 := inb_nI h8 (by decide)
  unfold g_X6_restLatestOn
  rw [hN, nI_pred, x6_has_y hN (by omega) (by omega), ob_i, if_neg (by decide), ck_t hi, lt1_i, ck_t hi, lt1_i, ck_t hi, lt1_i, ck_t hi, lt1_i, sA_nI (by omega), sA_nI (by omega), sA_nI (by omega), sA_nI (by omega)]
  rfl
theorem lat_up {pp : Nat → Int32} {k N p' : Nat} {y : Int32} (h : k ≤ N) : lat (upd pp N y) p' k = lat pp p' k := lat_c k (fun i hi => by rw [pk_un (by omega)])
theorem vS_up {f : Nat → Int32} {y e x : Int32} (h : isPt N x) (hN : N < 2 ^ 31) : vS (upd f N y) e x = vS f e x := by
  rcases h with rfl | ⟨k, hk, rfl⟩
  · rw [vS_0, vS_0]
  · rw [vS_n (by omega), vS_n (by omega), pk_un (by omega)]
/-- what is added to the table -/
theorem PI_add {t : Nat} (h : PI u q T N) (h8 : N < 3800) (hp : p < 40) (hT : T ≤ t) (ht : t ≤ 3000) : PI (addS u q N p (nI t) s n (vS (u.2.1 (q + 5)) 0 (u.2.1 (q + 11) p) + (if sameV u q (u.2.1 (q + 11) p) s n then 0 else 1)) (u.2.1 (q + 11) p)) q t (N + 1) := by
  obtain ⟨hN, -, -, hm, hl, hx⟩ := id h
  have hpt := lat_pt (pp := u.2.1 (q + 2)) (p := p) N
  unfold PI
  rw [addS_1, addS_2, addS_3, addS_4, addS_5, addS_6, addS_11]
  refine ⟨sF_y, h8, ht, fun i j hij hj => ?_, fun p' hp' => ?_, fun i hi => ?_⟩
  · rw [pk_un (show i ≠ N by omega)]
    by_cases e : j = N
    · subst e
      rw [pk_us, tnn (by omega)]
      obtain ⟨s', -, hs, -, e1, -⟩ := hx i hij
      rw [e1, tnn (by have := h.2.2.1; omega)]
      omega
    · rw [pk_un e]
      exact hm i j hij (by omega)
  · by_cases e : p' = p
    · subst e
      rw [pk_us, lat_y pk_us]
    · rw [pk_un e, lat_n (by rw [pk_us]; exact fun z => e (nI_inj (by omega) (by omega) z.symm)), lat_up (Nat.le_refl _), hl p' hp']
  · by_cases e : i = N
    · subst e
      refine ⟨t, p, Nat.le_refl _, hp, pk_us, pk_us, ?_, ?_⟩
      · rw [pk_us, hl p hp, lat_up (Nat.le_refl _)]
      · rw [pk_us, pk_us, pk_us, pk_us, hl p hp, vS_up hpt (by omega), vS_up hpt (by omega), vS_up hpt (by omega)]
    · obtain ⟨s', p', h1, h2, h3, h4, h5, h6⟩ := hx i (by omega)
      have hpi : isPt N (u.2.1 (q + 6) i) := by rw [h5]; exact lat_ok (by omega)
      refine ⟨s', p', by omega, h2, by rw [pk_un e]; exact h3, by rw [pk_un e]; exact h4, by rw [pk_un e, lat_up (by omega)]; exact h5, ?_⟩
      rw [pk_un e, pk_un e, pk_un e, pk_un e, vS_up hpi (by omega), vS_up hpi (by omega), vS_up hpi (by omega)]
      exact h6
theorem PRow_add {k : Nat} {m : Row} (h : PRow u q k m) (hk : k ≤ N) (hN : N < 2 ^ 31) : PRow (addS u q N p x s n ch old) q k m := by
  intro p' hp'
  rw [addS_2, addS_3, addS_4, addS_5, lat_up hk, vS_up (lat_ok hk) hN, vS_up (lat_ok hk) hN, vS_up (lat_ok hk) hN]
  exact h p' hp'
theorem PRow_new {m : Row} (hl : u.2.1 (q + 11) p = lat (u.2.1 (q + 2)) p N) (h : PRow u q N m) (hN : N < 2 ^ 31) (hp : p < 40) : PRow (addS u q N p x s n (vS (u.2.1 (q + 5)) 0 (u.2.1 (q + 11) p) + (if sameV u q (u.2.1 (q + 11) p) s n then 0 else 1)) (u.2.1 (q + 11) p)) q (N + 1) (mput m p s n) := by
  intro p' hp'
  rw [addS_2, addS_3, addS_4, addS_5]
  unfold mput
  by_cases e : p' = p
  · subst e
    obtain ⟨h1, h2, h3⟩ := h p' hp'
    rw [lat_y pk_us, vS_n hN, vS_n hN, vS_n hN, pk_us, pk_us, pk_us, pk_un (show p' ≠ 40 + p' by omega), pk_us, pk_us, pk_un (show 80 + p' ≠ 40 + p' by omega), pk_un (show 80 + p' ≠ p' by omega), pk_us, h1, h2, h3, hl]
    exact ⟨rfl, rfl, rfl⟩
  · rw [lat_n (by rw [pk_us]; exact fun z => e (nI_inj (by omega) (by omega) z.symm)), lat_up (Nat.le_refl _), vS_up (lat_pt N) hN, vS_up (lat_pt N) hN, vS_up (lat_pt N) hN, pk_un (show p' ≠ 40 + p by omega), pk_un e, pk_un (show p' ≠ 80 + p by omega), pk_un (show 40 + p' ≠ 40 + p by omega), pk_un (show 40 + p' ≠ p by omega), pk_un (show 40 + p' ≠ 80 + p by omega), pk_un (show 80 + p' ≠ 40 + p by omega), pk_un (show 80 + p' ≠ p by omega), pk_un (show 80 + p' ≠ 80 + p by omega)]
    exact h p' hp'
theorem cP_add {t k : Nat} (hk : k < t) (ht : t < 2 ^ 31) : cP ((addS u q N p (nI t) s n ch old).2.1 (q + 1)) k (N + 1) = cP (u.2.1 (q + 1)) k N := by
  rw [addS_1, cP_n (by rw [pk_us, tnn ht]; omega)]
  exact cP_c N (fun i hi => pk_un (by omega))
theorem cP_addT {t k : Nat} (hk : t ≤ k) (ht : t < 2 ^ 31) : cP ((addS u q N p (nI t) s n ch old).2.1 (q + 1)) k (N + 1) = N + 1 := by
  rw [addS_1, cP_y (by rw [pk_us, tnn ht]; exact hk)]
/-- the table asks for its own arrays alone -/
theorem PI_c {u' : rg_U} (h : PI u q T N) (hf : u'.1 (100 * q + 11) = u.1 (100 * q + 11)) (ha : ∀ j, q + 1 ≤ j → j ≤ q + 6 → u'.2.1 j = u.2.1 j) (hb : u'.2.1 (q + 11) = u.2.1 (q + 11)) : PI u' q T N := by
  unfold PI rF at *
  rw [hf, ha (q + 1) (by omega) (by omega), ha (q + 2) (by omega) (by omega), ha (q + 3) (by omega) (by omega), ha (q + 4) (by omega) (by omega), ha (q + 5) (by omega) (by omega), ha (q + 6) (by omega) (by omega), hb]
  exact h
theorem PRow_c {u' : rg_U} {m : Row} {k : Nat} (h : PRow u q k m) (ha : ∀ j, q + 1 ≤ j → j ≤ q + 6 → u'.2.1 j = u.2.1 j) : PRow u' q k m := by
  unfold PRow at *
  rw [ha (q + 2) (by omega) (by omega), ha (q + 3) (by omega) (by omega), ha (q + 4) (by omega) (by omega), ha (q + 5) (by omega) (by omega)]
  exact h
/-- back to t -/
theorem c_dropPuts {t : Nat} (h : PI u q T N) (ht : t ≤ T) (hF : 10000 < F) : ∃ w, g_X6_dropBehind F q (nI t) u = some w ∧ w.2.2 = u.2.2 ∧ (∀ j, j ≠ q + 11 → w.2.1 j = u.2.1 j) ∧ (∀ k, k ≠ 100 * q + 11 → w.1 k = u.1 k) ∧ PI w q t (cP (u.2.1 (q + 1)) t N) := by
  obtain ⟨hN, h8, hT, hm, hl, hx⟩ := id h
  have key : Tt (g_X6_dropBehind F q (nI t) u) (fun w => w.2.2 = u.2.2 ∧ (∀ j, j ≠ q + 11 → w.2.1 j = u.2.1 j) ∧ (∀ k, k ≠ 100 * q + 11 → w.1 k = u.1 k) ∧ rF w q 11 = nI (cP (u.2.1 (q + 1)) t N) ∧ ∀ p, p < 40 → w.2.1 (q + 11) p = lat (u.2.1 (q + 2)) p (cP (u.2.1 (q + 1)) t N)) := by
    unfold g_X6_dropBehind
    rw [hN]
    refine tt_b (tt_lp (I := fun s => ∃ M, M ≤ N ∧ cP (u.2.1 (q + 1)) t N ≤ M ∧ s.1 = nI M - 1 ∧ s.2.2.2 = u.2.2 ∧ (∀ j, j ≠ q + 11 → s.2.2.1 j = u.2.1 j) ∧ (∀ k, k ≠ 100 * q + 11 → s.2.1 k = u.1 k) ∧ rF s.2 q 11 = nI M ∧ ∀ p, p < 40 → s.2.2.1 (q + 11) p = lat (u.2.1 (q + 2)) p M) (m := fun s => (s.1.toInt + 1).toNat) (P := fun w => w.2.2 = u.2.2 ∧ (∀ j, j ≠ q + 11 → w.2.1 j = u.2.1 j) ∧ (∀ k, k ≠ 100 * q + 11 → w.1 k = u.1 k) ∧ rF w q 11 = nI (cP (u.2.1 (q + 1)) t N) ∧ ∀ p, p < 40 → w.2.1 (q + 11) p = lat (u.2.1 (q + 2)) p (cP (u.2.1 (q + 1)) t N)) ?_ F _ ?_ ?_) (fun _ z => z)
    · rintro ⟨a, w⟩ ⟨M, h1, h2, h3, h4, h5, h6, h7, h9⟩
      dsimp only at h3 h4 h5 h6 h7 h9 ⊢
      unfold g_X6_dropBehind_l7 g_X6_dropBehind_j49
      cases M with
      | zero =>
        have ec : cP (u.2.1 (q + 1)) t N = 0 := by omega
        rw [if_pos (by rw [h3]; decide), ec]
        exact tt_r ⟨h4, h5, h6, h7, h9⟩
      | succ M =>
        have e1 : a = nI M := by rw [h3]; exact nI_pred M
        subst e1
        have ea : ∀ j, j ≠ q + 11 → w.2.1 j = u.2.1 j := h5
        rw [if_neg (nI_pos (by omega)), x6_time h7 (by omega) (Or.inr ⟨M, by omega, rfl⟩), ob_i, vS_n (by omega), ea (q + 1) (by omega)]
        obtain ⟨s', p', b1, b2, b3, b4, b5, -⟩ := hx M (by omega)
        by_cases z : u.2.1 (q + 1) M ≤ nI t
        · rw [if_pos z]
          have z2 := (cP_iff N hm M (by omega)).mpr ((PI_t h (by omega) (by omega)).mp z)
          have ec : cP (u.2.1 (q + 1)) t N = M + 1 := by omega
          rw [ec]
          exact tt_r ⟨h4, h5, h6, h7, h9⟩
        · rw [if_neg z]
          have z2 : ¬ M < cP (u.2.1 (q + 1)) t N := fun y => z ((PI_t h (by omega) (by omega)).mpr ((cP_iff N hm M (by omega)).mp y))
          have hi : inb (nI M) 3800 := inb_nI (by omega) (by decide)
          have hi2 : inb (nI p') 40 := inb_nI b2 (by decide)
          rw [ck_t hi, rA_nI (by omega), ea (q + 2) (by omega), b4, if_neg (by rw [cl_place]; exact in_nI (a := 0) (b := 39) (by omega) (by omega) (by decide)), ck_t hi, ck_t hi, ck_t hi2, rA_nI (by omega), ea (q + 6) (by omega), b5, lt1_i, sA_nI (by omega), lt1_i]
          refine tt_l ⟨⟨M, by omega, by omega, ?_, h4, fun j hj => ?_, fun k hk => ?_, sF_y, fun p hp => ?_⟩, ?_⟩
          · dsimp only
            rw [Int32.sub_eq_add_neg]
          · rw [sF_A, R_n hj]; exact h5 j hj
          · rw [sF_n hk]; exact h6 k hk
          · rw [sF_A, R_s]
            by_cases e : p = p'
            · subst e; rw [pk_us]
            · rw [pk_un e, h9 p hp, lat_n (by rw [b4]; exact fun z => e (nI_inj (by omega) (by omega) z.symm))]
          · exact ms_d1 (by omega)
    · exact ms_i (by omega) (by omega)
    · exact ⟨N, Nat.le_refl _, cP_le N, rfl, rfl, fun _ _ => rfl, fun _ _ => rfl, hN, hl⟩
  obtain ⟨w, e, w1, w2, w3, w4, w5⟩ := key
  have hc := cP_le (pt := u.2.1 (q + 1)) (t := t) N
  refine ⟨w, e, w1, w2, w3, w4, by omega, by omega, ?_, ?_, ?_⟩
  · rw [w2 (q + 1) (by omega)]
    exact fun i j hij hj => hm i j hij (by omega)
  · rw [w2 (q + 2) (by omega)]
    exact w5
  · intro i hi
    obtain ⟨s', p', b1, b2, b3, b4, b5, b6⟩ := hx i (by omega)
    have := (cP_iff N hm i (by omega)).mp hi
    rw [b3, tnn (by omega)] at this
    rw [w2 (q + 1) (by omega), w2 (q + 2) (by omega), w2 (q + 3) (by omega), w2 (q + 4) (by omega), w2 (q + 5) (by omega), w2 (q + 6) (by omega)]
    exact ⟨s', p', this, b2, b3, b4, b5, b6⟩
theorem cP_cut {pt : Nat → Int32} {s t : Nat} (hm : monoP pt N) (h : s ≤ t) : cP pt s (cP pt t N) = cP pt s N := by
  refine (cP_up N (cP_le N) (fun k h1 h2 z => ?_)).symm
  have := (cP_iff (t := t) N hm k h2).mpr (Nat.le_trans z h)
  omega
end XA
end W_58
