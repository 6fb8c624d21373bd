/-! the class: every call returns -/
def okX (u : rg_U) : Prop := wkB u ∧ wkG u
section WKO
variable {F o o' j s : Nat} {x y z v i a b c d e : Int32} {u0 u w : rg_U}
theorem k_count (h : wkX u0 u) (ho : isRn o) : Tt (g_X9_count F o x u) (fun w => wkX u0 w) := by
  have hg := rn_ge ho
  unfold g_X9_count
  exact tt_lt (tt_lt (tt_s (wx_n (wx_n h (by omega) (tn_12 ho)) (by decide) (by decide))))
theorem k_replay (h : wkX u0 u) (ho : isRn o) (hF : 10000 < F) : Tt (g_X9_replay F o x u) (fun w => wkX u0 w) := by
  unfold g_X9_replay g_X9_replay_j24
  exact tt_if (fun _ => tt_b (k_count h ho) (fun _ q => q)) (fun _ => tt_ob (z_latestBy (b_H h ho) hF) (fun _ _ => tt_b (k_count h ho) (fun _ q => q)))
theorem k_lastChange (h : wkX u0 u) (ho : isRn o) (hx : inb x 3001) (hF : 10000 < F) : Tt (g_X9_lastChange F o x y u) (fun z => wkX u0 z.2) := by
  obtain ⟨X, hX, eX⟩ := t_nI (x := x) (N := 3000) hx.1 (by have := hx.2; omega)
  unfold g_X9_lastChange
  refine tt_ob (k_replay h ho hF) (fun w1 h1 => tt_ob (z_putBy (b_P h1 ho) hF) (fun _ _ => tt_ob z_changesOf (fun _ _ => tt_if (fun _ => tt_s h1) (fun _ => tt_ob (z_changedSince (b_P h1 ho) hF) (fun r _ => tt_b (tt_lp (I := fun s => wkX u0 s.2.2 ∧ ∃ a b : Nat, s.1 = nI a ∧ s.2.1 = nI b ∧ a ≤ 3001 ∧ b ≤ 3000) (m := fun s => (s.2.1.toInt - s.1.toInt).toNat) (P := fun z => wkX u0 z.2) ?_ F _ ?_ ?_) (fun _ q => q))))))
  · rintro ⟨p, q, w⟩ ⟨h0, a, b, rfl, rfl, ha, hb⟩
    dsimp only at h0 ⊢
    unfold g_X9_lastChange_l48 g_X9_lastChange_j91
    refine tt_if (fun _ => tt_r h0) (fun h3 => ?_)
    have hab : a < b := by
      rcases Nat.lt_or_ge a b with z | z
      · exact z
      · exact absurd (nI_le z (by omega)) h3
    have em : (nI a + nI b) / 2 = nI ((a + b) / 2) := by rw [nI_add]; exact pk_div (a := a + b) (d := 2) (by omega) (by omega) (by omega)
    rw [em]
    have ta := nI_toInt (n := a) (by omega)
    have tb := nI_toInt (n := b) (by omega)
    have tm := nI_toInt (n := (a + b) / 2) (by omega)
    have tm1 := nI_toInt (n := (a + b) / 2 + 1) (by omega)
    refine tt_ob (k_replay h0 ho hF) (fun w' hw' => tt_if (fun _ => tt_l ⟨⟨hw', (a + b) / 2 + 1, b, nI_1 _, rfl, by omega, hb⟩, ?_⟩) (fun _ => tt_l ⟨⟨hw', a, (a + b) / 2, rfl, rfl, ha, by omega⟩, ?_⟩))
    · dsimp only
      rw [nI_1, tm1, tb, ta]
      omega
    · dsimp only
      rw [tm, tb, ta]
      omega
  · dsimp only
    rw [t_0, eX, nI_toInt (by omega)]
    omega
  · exact ⟨h1, 0, X, rfl, eX, by omega, hX⟩
theorem z_room (hG : wkG u) : Tt (g_X9_roomOfKept F x u) (fun r => (inb x 4 → ∃ k, k < 4 ∧ x = nI k ∧ r = some (151 + 34 * k)) ∧ (¬ inb x 4 → r = none)) := by
  unfold g_X9_roomOfKept
  refine tt_if (fun h1 => tt_s ⟨fun q => ?_, fun _ => rfl⟩) (fun h1 => tt_if (fun h2 => tt_s ⟨fun q => ?_, fun _ => rfl⟩) (fun h2 => ?_))
  · exfalso
    (try simp only [inb, Int32.lt_iff_toInt_lt, Int32.le_iff_toInt_le, t_m1, t_0, t_1, t_2, t_4, t_8, t_10, t_18, t_23, t_32, t_40, t_64, t_100, t_500, t_800, t_900, t_3000, t_3800] at *) <;> omega
  · exfalso
    (try simp only [inb, Int32.lt_iff_toInt_lt, Int32.le_iff_toInt_le, t_m1, t_0, t_1, t_2, t_4, t_8, t_10, t_18, t_23, t_32, t_40, t_64, t_100, t_500, t_800, t_900, t_3000, t_3800] at *) <;> omega
  · have hi : inb x 4 := (by (try simp only [inb, Int32.lt_iff_toInt_lt, Int32.le_iff_toInt_le, t_m1, t_0, t_1, t_2, t_4, t_8, t_10, t_18, t_23, t_32, t_40, t_64, t_100, t_500, t_800, t_900, t_3000, t_3800] at *) <;> omega)
    obtain ⟨k, hk, e⟩ := t_nI (x := x) (N := 3) hi.1 (by have := hi.2; omega)
    have e2 : rQ u 150 x = some (151 + 34 * k) := by
      unfold rQ
      rw [e, nI_clamp (by omega)]
      exact hG.2.1 k (by omega)
    have hr : isRn (151 + 34 * k) := by
      rcases (show k = 0 ∨ k = 1 ∨ k = 2 ∨ k = 3 by omega) with rfl | rfl | rfl | rfl
      · exact Or.inr (Or.inl rfl)
      · exact Or.inr (Or.inr (Or.inl rfl))
      · exact Or.inr (Or.inr (Or.inr (Or.inl rfl)))
      · exact Or.inr (Or.inr (Or.inr (Or.inr rfl)))
    rw [e2, om_i]
    exact tt_ck hi (tt_ck hr (tt_s ⟨fun _ => ⟨k, by omega, e, rfl⟩, fun q => absurd hi q⟩))
theorem rn_room {k : Nat} (hk : k < 4) : isRn (151 + 34 * k) := by
  rcases (show k = 0 ∨ k = 1 ∨ k = 2 ∨ k = 3 by omega) with rfl | rfl | rfl | rfl
  · exact Or.inr (Or.inl rfl)
  · exact Or.inr (Or.inr (Or.inl rfl))
  · exact Or.inr (Or.inr (Or.inr (Or.inl rfl)))
  · exact Or.inr (Or.inr (Or.inr (Or.inr rfl)))
theorem z_numbered (hG : wkG u) : Tt (g_X9_numbered F x u) (fun r => ∀ o, r = some o → isRn o) := by
  unfold g_X9_numbered
  refine tt_if (fun _ => ?_) (fun _ => tt_ob z_isKept (fun r hr => tt_if (fun _ => tt_s fun o q => by cases q) (fun q => tt_ob (z_room hG) (fun r5 h5 => ?_))))
  · rcases hG.1 with e | e
    · rw [show rG u 0 7 = none from e, om_0]
      exact tt_s fun o q => by cases q
    · rw [show rG u 0 7 = some 116 from e, om_i]
      exact tt_ck (Or.inl rfl) (tt_s fun o q => by cases q; exact Or.inl rfl)
  · obtain ⟨k, hk, -, e⟩ := h5.1 (hr q)
    rw [e, om_i]
    exact tt_ck (rn_room hk) (tt_s fun o q => by cases q; exact rn_room hk)
theorem tt_num {α : Type} {A : Option α} {f : Nat → Option α} {P : α → Prop} (hG : wkG u) (hA : Tt A P) (hB : ∀ o, isRn o → Tt (f o) P) : Tt (ob (g_X9_numbered F x u) (fun r => om r A (fun o => ck (isRn o) (f o)))) P := tt_ob (z_numbered hG) (fun r hr => tt_om (fun _ => hA) (fun o e => tt_ck (hr o e) (hB o (hr o e))))
theorem wx_13 (h : wkX u0 u) : wkX u0 (sF u 0 13 v) := wx_n h (by decide) (by decide)
theorem wk_at (h : wkX u0 u) (hG : wkG u0) (hF : 10000 < F) : Tt (g_X9_at F x y z u) (fun z => wkX u0 z.2) := by
  unfold g_X9_at
  have h1 : wkX u0 (sF u 0 13 0) := wx_13 h
  refine tt_lt (tt_num (wx_G hG h1) (tt_s h1) (fun o ho => tt_ob z_hasT (fun r hr => tt_if (fun _ => tt_s h1) (fun q => tt_if (fun _ => tt_s h1) (fun _ => tt_if (fun _ => tt_s h1) (fun _ => tt_if (fun _ => tt_ob (k_replay h1 ho hF) (fun w hw => tt_ob (z_putBy (b_P hw ho) hF) (fun _ _ => tt_if (fun _ => tt_b z_sortOf (fun _ _ => hw)) (fun _ => tt_if (fun _ => tt_b z_numberOf (fun _ _ => hw)) (fun _ => tt_b z_changesOf (fun _ _ => hw)))))) (fun _ => tt_s h1)))))))
theorem wk_state (h : wkX u0 u) (hG : wkG u0) (hF : 10000 < F) : Tt (g_X9_state F x y u) (fun z => wkX u0 z.2) := by
  unfold g_X9_state
  have h1 : wkX u0 (sF u 0 13 0) := wx_13 h
  exact tt_lt (tt_num (wx_G hG h1) (tt_s h1) (fun o ho => tt_ob z_hasT (fun r hr => tt_if (fun _ => tt_s h1) (fun q => tt_if (fun _ => tt_s h1) (fun _ => tt_ob (k_replay h1 ho hF) (fun w hw => tt_if (fun _ => tt_b z_counterAt (fun _ _ => hw)) (fun _ => tt_if (fun _ => tt_b (z_stackSize hF) (fun _ _ => hw)) (fun _ => tt_if (fun _ => tt_b z_outsAt (fun _ _ => hw)) (fun _ => tt_if (fun _ => tt_b z_checkAt (fun _ _ => hw)) (fun _ => tt_if (fun _ => tt_ob z_counterAt (fun _ _ => tt_b z_kindAt (fun _ _ => hw))) (fun _ => tt_b (z_stackedAt hF) (fun _ _ => hw))))))))))))
theorem wk_last (h : wkX u0 u) (hG : wkG u0) (hF : 10000 < F) : Tt (g_X9_last F x y u) (fun z => wkX u0 z.2) := by
  unfold g_X9_last
  have h1 : wkX u0 (sF u 0 13 0) := wx_13 h
  exact tt_lt (tt_num (wx_G hG h1) (tt_s h1) (fun o ho => tt_ob z_hasT (fun r hr => tt_if (fun _ => tt_s h1) (fun q => tt_if (fun _ => tt_s h1) (fun _ => tt_b (k_lastChange h1 ho (hr q) hF) (fun _ q => q))))))
theorem wk_when (h : wkX u0 u) (hG : wkG u0) (hF : 10000 < F) : Tt (g_X9_when F x y z v u) (fun z => wkX u0 z.2) := by
  unfold g_X9_when
  have h1 : wkX u0 (sF u 0 13 0) := wx_13 h
  exact tt_lt (tt_num (wx_G hG h1) (tt_s h1) (fun o ho => tt_ob z_hasT (fun r hr => tt_if (fun _ => tt_s h1) (fun q => tt_if (fun _ => tt_s h1) (fun _ => tt_if (fun _ => tt_s h1) (fun _ => tt_ob (z_hadBy (b_P h1 ho) hF) (fun _ _ => tt_ob (z_stepsToFind (b_H h1 ho) hF) (fun _ _ => tt_b (k_count h1 ho) (fun _ q => q)))))))))
theorem t_pl : 0 ≤ (g_X9_placesOf y).toInt ∧ (g_X9_placesOf y).toInt ≤ 32 := by
  unfold g_X9_placesOf
  by_cases q : y = 0
  · rw [if_pos q]; decide
  · rw [if_neg q]; decide
theorem wk_changed (h : wkX u0 u) (hG : wkG u0) (hF : 10000 < F) : Tt (g_X9_changed F x y u) (fun z => wkX u0 z.2) := by
  unfold g_X9_changed
  have h1 : wkX u0 (sF u 0 13 0) := wx_13 h
  have hp := t_pl (y := y)
  refine tt_lt (tt_num (wx_G hG h1) (tt_s h1) (fun o ho => tt_if (fun _ => tt_s h1) (fun _ => tt_if (fun _ => tt_s h1) (fun _ => tt_if (fun _ => tt_s h1) (fun _ => tt_ob (k_replay h1 ho hF) (fun w1 h2 => tt_ob (k_replay h2 ho hF) (fun w2 h3 => tt_b (tt_lp (I := fun s => 0 ≤ s.2.toInt ∧ s.2.toInt ≤ 32) (m := fun s => (32 - s.2.toInt).toNat) (P := fun _ => True) ?_ F _ ?_ ?_) (fun _ _ => h3))))))))
  · rintro ⟨a, c⟩ ⟨h4, h5⟩
    dsimp only at h4 h5 ⊢
    unfold g_X9_changed_l60 g_X9_changed_j134
    refine tt_if (fun _ => tt_r trivial) (fun h6 => ?_)
    rw [Int32.le_iff_toInt_le] at h6
    have := t_a1 (x := c) (by omega)
    exact tt_ob (z_putBy (b_P h3 ho) hF) (fun _ _ => tt_ob z_changesOf (fun _ _ => tt_ob (z_putBy (b_P h3 ho) hF) (fun _ _ => tt_ob z_changesOf (fun _ _ => tt_if (fun _ => tt_l (by dsimp only; omega)) (fun _ => tt_l (by dsimp only; omega))))))
  · dsimp only
    rw [t_0]
    omega
  · dsimp only
    rw [t_0]
    omega
theorem wk_watched (h : wkX u0 u) (hG : wkG u0) (hF : 10000 < F) : Tt (g_X9_watched F x u) (fun z => wkX u0 z.2) := by
  unfold g_X9_watched
  have h1 : wkX u0 (sF u 0 13 0) := wx_13 h
  refine tt_lt (tt_num (wx_G hG h1) (tt_s h1) (fun o ho => tt_if (fun _ => tt_s h1) (fun h2 => tt_if (fun h3 => tt_b (tt_lp (I := fun s => wkX u0 s.2.2 ∧ 0 ≤ s.2.1.toInt ∧ s.2.1.toInt ≤ 40) (m := fun s => (40 - s.2.1.toInt).toNat) (P := fun z => wkX u0 z.2) ?_ F _ ?_ ?_) (fun _ q => q)) (fun _ => tt_s h1))))
  · rintro ⟨a, c, w⟩ ⟨h0, h4, h5⟩
    dsimp only at h0 h4 h5 ⊢
    unfold g_X9_watched_l39 g_X9_watched_j70
    refine tt_if (fun _ => tt_r h0) (fun h6 => ?_)
    have hb := b_9 h1 ho
    rw [Int32.le_iff_toInt_le, t_40] at h6
    rw [Int32.lt_iff_toInt_lt, t_1] at h2
    rw [Int32.le_iff_toInt_le] at h3
    have := t_a1 (x := c) (by omega)
    have ts := t_s1 (x := x) (by omega)
    have hi : inb (x - 1) 3001 := by constructor <;> omega
    exact tt_ob z_isWatched (fun _ _ => tt_if (fun _ => tt_l ⟨⟨h0, by dsimp only; omega⟩, by dsimp only; omega⟩) (fun _ => tt_ob (k_lastChange h0 ho hi hF) (fun _ h7 => tt_l ⟨⟨h7, by dsimp only; omega⟩, by dsimp only; omega⟩)))
  · dsimp only
    rw [t_0]
    omega
  · dsimp only
    rw [t_0]
    exact ⟨h1, by omega⟩
theorem wk_rests (h : wkX u0 u) (hG : wkG u0) (hF : 10000 < F) : Tt (g_X9_rests F x y z u) (fun z => wkX u0 z.2) := by
  unfold g_X9_rests
  exact tt_num (wx_G hG h) (tt_s h) (fun o ho => tt_ob z_hasT (fun r hr => tt_if (fun _ => tt_s h) (fun q => tt_if (fun _ => tt_s h) (fun _ => tt_ob (z_putBy (b_P h ho) hF) (fun _ _ => tt_ob (k_markBelow h ho hF) (fun _ h1 => tt_b (z_markedStep (by decide) hF) (fun _ _ => h1)))))))
theorem wk_hangs (h : wkX u0 u) (hG : wkG u0) (hF : 10000 < F) : Tt (g_X9_hangs F x y z u) (fun z => wkX u0 z.2) := by
  unfold g_X9_hangs
  have hp := t_pl (y := z)
  refine tt_num (wx_G hG h) (tt_s h) (fun o ho => tt_ob z_has3 (fun r hr => tt_if (fun _ => tt_s h) (fun q => tt_ob z_hasT (fun r hr => tt_if (fun _ => tt_s h) (fun q => tt_if (fun _ => tt_s h) (fun _ => tt_ob (k_markAbove h hF) (fun w1 h1 => tt_b (tt_lp (I := fun s => 0 ≤ s.2.toInt ∧ s.2.toInt ≤ 32) (m := fun s => (32 - s.2.toInt).toNat) (P := fun _ => True) ?_ F _ ?_ ?_) (fun _ _ => h1))))))))
  · rintro ⟨a, c⟩ ⟨h4, h5⟩
    dsimp only at h4 h5 ⊢
    unfold g_X9_hangs_l65 g_X9_hangs_j109
    refine tt_if (fun _ => tt_r trivial) (fun h6 => ?_)
    rw [Int32.le_iff_toInt_le] at h6
    have := t_a1 (x := c) (by omega)
    exact tt_ob (z_putBy (b_P h1 ho) hF) (fun _ _ => tt_ob (z_isMarked (by decide)) (fun _ _ => tt_if (fun _ => tt_l (by dsimp only; omega)) (fun _ => tt_l (by dsimp only; omega))))
  · dsimp only
    rw [t_0]
    omega
  · dsimp only
    rw [t_0]
    omega
theorem wk_history (h : wkX u0 u) (hG : wkG u0) (hF : 10000 < F) : Tt (g_X9_history F x y z u) (fun _ => True) := by
  have j68 : ∀ o s0, isRn o → Tt (g_X9_history_j68 F o x z s0 u) (fun _ => True) := fun o s0 ho => by
    unfold g_X9_history_j68
    exact tt_if (fun _ => tt_s trivial) (fun _ => tt_ob (z_putBy (b_P h ho) hF) (fun _ _ => tt_if (fun _ => tt_s trivial) (fun _ => tt_if (fun _ => tt_b z_sortOf (fun _ _ => trivial)) (fun _ => tt_b z_numberOf (fun _ _ => trivial)))))
  unfold g_X9_history
  exact tt_num (wx_G hG h) (tt_s trivial) (fun o ho => tt_if (fun _ => tt_s trivial) (fun _ => tt_if (fun _ => tt_s trivial) (fun _ => tt_if (fun _ => tt_if (fun _ => tt_b (z_changeTimes hF) (fun _ _ => trivial)) (fun _ => tt_if (fun _ => tt_ob (z_changeTimes hF) (fun _ _ => j68 _ _ ho)) (fun _ => j68 _ _ ho))) (fun _ => tt_s trivial))))
theorem wk_done (h : wkX u0 u) (hG : wkG u0) (hF : 10000 < F) : Tt (g_X9_done F x y u) (fun _ => True) := by
  unfold g_X9_done
  refine tt_num (wx_G hG h) (tt_s trivial) (fun o ho => tt_ob z_hasT (fun r hr => tt_if (fun _ => tt_s trivial) (fun q => tt_if (fun _ => tt_s trivial) (fun _ => tt_if (fun _ => tt_b (tt_lp (I := fun s => 0 ≤ s.2.toInt ∧ s.2.toInt ≤ 3001) (m := fun s => (3001 - s.2.toInt).toNat) (P := fun _ => True) ?_ F _ ?_ ?_) (fun _ _ => trivial)) (fun _ => tt_s trivial)))))
  · rintro ⟨a, c⟩ ⟨h4, h5⟩
    dsimp only at h4 h5 ⊢
    unfold g_X9_done_l40 g_X9_done_j59
    refine tt_if (fun _ => tt_r trivial) (fun h6 => ?_)
    rw [Int32.le_iff_toInt_le] at h6
    have hi := hr q
    have h7 := hi.2
    have := t_a1 (x := c) (by omega)
    exact tt_ob z_counterAt (fun _ _ => tt_if (fun _ => tt_l (by dsimp only; omega)) (fun _ => tt_l (by dsimp only; omega)))
  · dsimp only
    rw [t_0]
    omega
  · dsimp only
    rw [t_0]
    omega
theorem wk_call (hG : wkG u) : Tt (g_X9_call F x y u) (fun _ => True) := by
  unfold g_X9_call
  exact tt_num hG (tt_s trivial) (fun o ho => tt_if (fun _ => tt_s trivial) (fun _ => tt_if (fun _ => tt_if (fun _ => tt_s trivial) (fun _ => tt_b z_read1 (fun _ _ => trivial))) (fun _ => tt_s trivial)))
theorem wk_log (hG : wkG u) : Tt (g_X9_log F x y u) (fun _ => True) := by
  unfold g_X9_log
  exact tt_num hG (tt_s trivial) (fun o ho => tt_if (fun _ => tt_s trivial) (fun _ => tt_if (fun _ => tt_if (fun _ => tt_s trivial) (fun _ => tt_b z_read3 (fun _ _ => trivial))) (fun _ => tt_s trivial)))
theorem wk_held (hG : wkG u) : Tt (g_X9_held F x y u) (fun _ => True) := by
  unfold g_X9_held
  exact tt_num hG (tt_s trivial) (fun o ho => tt_if (fun _ => tt_s trivial) (fun _ => tt_if (fun _ => tt_if (fun _ => tt_s trivial) (fun _ => tt_if (fun _ => tt_b z_timeOf2 (fun _ _ => trivial)) (fun _ => tt_b z_goesAt (fun _ _ => trivial)))) (fun _ => tt_s trivial)))
theorem wk_look (hG : wkG u) : Tt (g_X9_look F x u) (fun _ => True) := by
  have j24 : Tt (g_X9_look_j24 F x u) (fun _ => True) := by
    unfold g_X9_look_j24
    exact tt_if (fun _ => tt_s trivial) (fun _ => tt_if (fun _ => tt_s trivial) (fun _ => tt_if (fun _ => tt_s trivial) (fun _ => tt_if (fun _ => tt_s trivial) (fun _ => tt_if (fun _ => tt_s trivial) (fun _ => tt_if (fun _ => tt_s trivial) (fun _ => tt_s trivial))))))
  have lr : ∀ o, Tt (g_X9_lookAtRun F o x u) (fun _ => True) := fun o => by
    unfold g_X9_lookAtRun
    exact tt_if (fun _ => tt_s trivial) (fun _ => tt_if (fun _ => tt_ob z_isKept (fun _ _ => tt_if (fun _ => tt_b z_status (fun _ _ => trivial)) (fun _ => tt_s trivial))) (fun _ => tt_if (fun _ => tt_s trivial) (fun _ => tt_if (fun _ => tt_s trivial) (fun _ => tt_if (fun _ => tt_s trivial) (fun _ => tt_if (fun _ => tt_s trivial) (fun _ => tt_s trivial))))))
  unfold g_X9_look
  refine tt_if (fun _ => j24) (fun _ => tt_if (fun _ => j24) (fun _ => tt_num hG ?_ (fun o ho => tt_b (lr o) (fun _ _ => trivial))))
  unfold g_X9_lookAtRun_n
  exact tt_s trivial
theorem tt_num2 {α : Type} {A : Option α} {f : Nat → Nat → Option α} {P : α → Prop} (hG : wkG u) (hA : Tt A P) (hB : ∀ o o', isRn o → isRn o' → Tt (f o o') P) : Tt (ob (g_X9_numbered F x u) (fun r => om r (ob (g_X9_numbered F y u) (fun r4 => om r4 A (fun o6 => ck (isRn o6) A))) (fun o3 => ck (isRn o3) (ob (g_X9_numbered F y u) (fun r8 => om r8 A (fun o10 => ck (isRn o10) (f o3 o10))))))) P := tt_num hG (tt_num hG hA (fun _ _ => hA)) (fun o ho => tt_num hG hA (fun o' ho' => hB o o' ho ho'))
theorem wk_align (h : wkX u0 u) (hG : wkG u0) (hF : 10000 < F) : Tt (g_X9_align F x y u) (fun z => wkX u0 z.2) := by
  unfold g_X9_align
  exact tt_num2 (wx_G hG h) (tt_s h) (fun o o' ho ho' => tt_b (k_lay hG h ho ho' hF) (fun _ q => q))
theorem wk_parts (h : wkX u0 u) (hG : wkG u0) (hF : 10000 < F) : Tt (g_X9_parts F x y u) (fun z => wkX u0 z.2) := by
  unfold g_X9_parts
  exact tt_num2 (wx_G hG h) (tt_s h) (fun o o' ho ho' => tt_b (k_firstUnlike h ho ho' hF) (fun _ q => q))
theorem z_unlike {o1 o2 : Nat} {l1 l3 l4 : Int32} (h1 : 0 ≤ (rF u o1 11).toInt ∧ (rF u o1 11).toInt ≤ 3800) (h2 : 0 ≤ (rF u o2 11).toInt ∧ (rF u o2 11).toInt ≤ 3800) (hF : 10000 < F) : Tt (g_X9_unlike F o1 l1 o2 l3 l4 u) (fun _ => True) := by
  have hp := t_pl (y := l4)
  unfold g_X9_unlike
  refine tt_b (tt_lp (I := fun s => 0 ≤ s.2.toInt ∧ s.2.toInt ≤ 32) (m := fun s => (32 - s.2.toInt).toNat) (P := fun _ => True) ?_ F _ ?_ ?_) (fun _ _ => trivial)
  · rintro ⟨a, c⟩ ⟨h4, h5⟩
    dsimp only at h4 h5 ⊢
    unfold g_X9_unlike_l6 g_X9_unlike_j70
    refine tt_if (fun _ => tt_r trivial) (fun h6 => ?_)
    rw [Int32.le_iff_toInt_le] at h6
    have := t_a1 (x := c) (by omega)
    exact tt_ob (z_putBy h2 hF) (fun _ _ => tt_ob (z_putBy h1 hF) (fun _ _ => tt_ob z_sortOf (fun _ _ => tt_ob z_numberOf (fun _ _ => tt_ob z_hasValue (fun _ _ => tt_if (fun _ => tt_l (by dsimp only; omega)) (fun _ => tt_l (by dsimp only; omega)))))))
  · dsimp only
    rw [t_0]
    omega
  · dsimp only
    rw [t_0]
    omega
theorem wk_pair (h : wkX u0 u) (hG : wkG u0) (hF : 10000 < F) : Tt (g_X9_pair F x y z v u) (fun z => wkX u0 z.2) := by
  unfold g_X9_pair
  have h1 : wkX u0 (sF u 0 13 0) := wx_13 h
  exact tt_lt (tt_num2 (wx_G hG h1) (tt_s h1) (fun o o' ho ho' => tt_if (fun _ => tt_s h1) (fun _ => tt_if (fun _ => tt_ob (k_lay hG h1 ho ho' hF) (fun w h2 => tt_ob z_has0 (fun _ _ => tt_if (fun _ => tt_s h2) (fun _ => tt_if (fun _ => tt_b z_callOne (fun _ _ => h2)) (fun _ => tt_if (fun _ => tt_b z_callOther (fun _ _ => h2)) (fun _ => tt_ob z_callOne (fun _ _ => tt_ob z_read1 (fun _ _ => tt_ob z_callOther (fun _ _ => tt_ob z_read1 (fun _ _ => tt_ob (k_replay h2 ho hF) (fun _ h3 => tt_ob (k_replay h3 ho' hF) (fun _ h4 => tt_b (z_unlike (b_P h4 ho) (b_P h4 ho') hF) (fun _ _ => h4))))))))))))) (fun _ => tt_s h1))))
theorem wx_now (h : wkX u0 u) : rG u 0 7 = rG u0 0 7 := by
  unfold rG
  rw [h.2.2.2]
theorem wk_give (h : wkX u0 u) (hG : wkG u0) : Tt (g_X9_give F x u) (fun z => wkX u0 z.2) := by
  unfold g_X9_give
  rcases (wx_G hG h).1 with e | e
  · rw [show rG u 0 7 = none from e, om_0]
    exact tt_s h
  · rw [show rG u 0 7 = some 116 from e, om_i]
    exact tt_ck (Or.inl rfl) (tt_if (fun _ => tt_b (k_addLast h) (fun _ q => q)) (fun _ => tt_s h))
theorem wk_seed (h : wkX u0 u) : Tt (g_X9_seed F x u) (fun z => wkX u0 z.2) := by
  unfold g_X9_seed
  exact tt_lt (tt_s (wx_n h (by decide) (by decide)))
theorem wk_poke (h : wkX u0 u) (hG : wkG u0) : Tt (g_X9_poke F x y z u) (fun z => wkX u0 z.2) := by
  unfold g_X9_poke
  rcases (wx_G hG h).1 with e | e
  · rw [show rG u 0 7 = none from e, om_0]
    exact tt_s h
  · rw [show rG u 0 7 = some 116 from e]
    simp only [om_i]
    have hr : isRn 116 := Or.inl rfl
    exact tt_ck hr (tt_ck hr (tt_ob z_isFull (fun _ _ => tt_if (fun _ => tt_if (fun _ => tt_s h) (fun _ => tt_if (fun _ => tt_s h) (fun _ => tt_ck hr (tt_ob (k_poke h hr) (fun _ h1 => tt_if (fun _ => tt_s h1) (fun _ => tt_s h1)))))) (fun _ => tt_s h))))
theorem wk_run (h : wkX u0 u) (hG : wkG u0) (hF : 10000 < F) : Tt (g_X9_run F x u) (fun z => wkX u0 z.2) := by
  unfold g_X9_run
  have hr : isRn 116 := Or.inl rfl
  rcases (wx_G hG h).1 with e | e
  · rw [show rG u 0 7 = none from e, om_0]
    exact tt_s h
  · rw [show rG u 0 7 = some 116 from e, om_i]
    have e0 : rG u0 0 7 = some 116 := by rw [← wx_now h]; exact e
    refine tt_ck hr (tt_if (fun _ => tt_s h) (fun h1 => tt_if (fun h2 => tt_b (tt_lp (I := fun s => wkX u0 s.2.2 ∧ 0 ≤ s.1.toInt ∧ s.1.toInt ≤ 500) (m := fun s => (500 - s.1.toInt).toNat) (P := fun z => wkX u0 z.2) ?_ F _ ?_ ?_) (fun _ q => q)) (fun _ => tt_s h)))
    · rintro ⟨a, c, w⟩ ⟨h0, h4, h5⟩
      dsimp only at h0 h4 h5 ⊢
      unfold g_X9_run_l25 g_X9_run_j81
      refine tt_if (fun _ => tt_r h0) (fun _ => tt_if (fun _ => tt_r h0) (fun h6 => ?_))
      rw [Int32.le_iff_toInt_le] at h6
      rw [Int32.le_iff_toInt_le, t_500] at h2
      have := t_a1 (x := a) (by omega)
      rw [wx_now h0, e0]
      simp only [om_i]
      refine tt_ck hr (tt_ob z_canStep (fun _ _ => tt_if (fun _ => tt_r h0) (fun _ => tt_ck hr (tt_ob (k_step h0 hr hF) (fun w' hw' => ?_)))))
      rw [wx_now hw', e0, om_i]
      exact tt_ck hr (tt_ob z_isWatched (fun _ _ => tt_if (fun _ => tt_l ⟨⟨hw', by dsimp only; omega⟩, by dsimp only; omega⟩) (fun _ => tt_l ⟨⟨hw', by dsimp only; omega⟩, by dsimp only; omega⟩)))
    · dsimp only
      rw [t_0]
      omega
    · dsimp only
      rw [t_0]
      exact ⟨h, by omega⟩
theorem wk_back (h : wkX u0 u) (hG : wkG u0) (hF : 10000 < F) : Tt (g_X9_back F x u) (fun z => wkX u0 z.2) := by
  unfold g_X9_back
  have hr : isRn 116 := Or.inl rfl
  have h1 : wkX u0 (sF u 0 13 0) := wx_13 h
  refine tt_lt ?_
  rcases (wx_G hG h1).1 with e | e
  · rw [show rG (sF u 0 13 0) 0 7 = none from e, om_0]
    exact tt_s h1
  · rw [show rG (sF u 0 13 0) 0 7 = some 116 from e]
    have e0 : rG u0 0 7 = some 116 := by rw [← wx_now h1]; exact e
    simp only [om_i]
    refine tt_ck hr (tt_if (fun _ => tt_s h1) (fun _ => tt_ck hr (tt_if (fun _ => tt_ck hr (tt_ob (k_replay h1 hr hF) (fun w hw => ?_))) (fun _ => tt_s h1))))
    rw [wx_now hw, e0, om_i]
    exact tt_ck hr (tt_b (k_goBack hw hr hF) (fun _ q => q))
end WKO
