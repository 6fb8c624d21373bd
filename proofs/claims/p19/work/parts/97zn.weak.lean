/-! the class: every call returns (back, keep, marks, two runs) -/
section WKN
variable {F o o' j s : Nat} {x y z v i a b c d e : Int32} {u0 u w : rg_U}
theorem k_dropFrom (h : wkX u0 u) (ho : isRn o) (hF : 10000 < F) : Tt (g_X1_dropFrom F (o + 24) x u) (fun w => wkX u0 w) := by
  have hg := rn_ge ho
  have hb := b_C h ho
  have hs := t_s1 (x := rF u (o + 24) 3) (by omega)
  unfold g_X1_dropFrom
  refine tt_b (tt_lp (I := fun s => wkX u0 s.2 ∧ -1 ≤ s.1.toInt ∧ s.1.toInt ≤ 99) (m := fun s => (s.1.toInt + 1).toNat) (P := fun w => wkX u0 w) ?_ F _ ?_ ?_) (fun _ q => q)
  · rintro ⟨c, w⟩ ⟨h0, h1, h2⟩
    dsimp only at h0 h1 h2 ⊢
    unfold g_X1_dropFrom_l7
    refine tt_if (fun _ => tt_r h0) (fun h3 => tt_ob z_has1 (fun r hr => tt_if (fun _ => tt_r h0) (fun q => tt_ck (hr q) (tt_if (fun _ => tt_r h0) (fun _ => tt_lt (tt_l ?_))))))
    have h4 : 0 ≤ c.toInt := (hr q).1
    have := t_d1 (x := c) (by omega)
    exact ⟨⟨wx_b h0 (by omega) (tb_C ho) h4 (by omega), by dsimp only; omega⟩, by dsimp only; omega⟩
  · dsimp only
    omega
  · dsimp only
    exact ⟨h, by omega⟩
theorem k_dropAbove (h : wkX u0 u) (ho : isRn o) (hF : 10000 < F) : Tt (g_X2_dropAbove F (o + 28) x u) (fun w => wkX u0 w) := by
  have hg := rn_ge ho
  have hb := b_H h ho
  have hs := t_s1 (x := rF u (o + 28) 1) (by omega)
  unfold g_X2_dropAbove
  refine tt_b (tt_lp (I := fun s => wkX u0 s.2 ∧ -1 ≤ s.1.toInt ∧ s.1.toInt ≤ 63) (m := fun s => (s.1.toInt + 1).toNat) (P := fun w => wkX u0 w) ?_ F _ ?_ ?_) (fun _ q => q)
  · rintro ⟨c, w⟩ ⟨h0, h1, h2⟩
    dsimp only at h0 h1 h2 ⊢
    unfold g_X2_dropAbove_l7
    refine tt_if (fun _ => tt_r h0) (fun h3 => tt_ob z_timeOf2 (fun r hr => tt_if (fun _ => tt_r h0) (fun q => tt_lt (tt_l ?_))))
    have h4 : 0 ≤ c.toInt := by
      rw [Int32.lt_iff_toInt_lt, t_0] at h3
      omega
    have := t_d1 (x := c) (by omega)
    exact ⟨⟨wx_b h0 (by omega) (tb_H ho) h4 (by omega), by dsimp only; omega⟩, by dsimp only; omega⟩
  · dsimp only
    omega
  · dsimp only
    exact ⟨h, by omega⟩
theorem k_dropLog (h : wkX u0 u) (ho : isRn o) (hF : 10000 < F) : Tt (g_X3_dropBehind F (o + 6) x u) (fun w => wkX u0 w) := by
  have hg := rn_ge ho
  have hb := b_L h ho
  have hs := t_s1 (x := rF u (o + 6) 5) (by omega)
  unfold g_X3_dropBehind
  refine tt_b (tt_lp (I := fun s => wkX u0 s.2 ∧ -1 ≤ s.1.toInt ∧ s.1.toInt ≤ 799) (m := fun s => (s.1.toInt + 1).toNat) (P := fun w => wkX u0 w) ?_ F _ ?_ ?_) (fun _ q => q)
  · rintro ⟨c, w⟩ ⟨h0, h1, h2⟩
    dsimp only at h0 h1 h2 ⊢
    unfold g_X3_dropBehind_l7 g_X3_dropBehind_j39
    refine tt_if (fun _ => tt_r h0) (fun h3 => tt_ob z_isBehind (fun r hr => tt_if (fun _ => tt_r h0) (fun q => ?_)))
    have h4 : 0 ≤ c.toInt := (hr q).1
    have := t_d1 (x := c) (by omega)
    have fin : ∀ w', wkX u0 w' → Tt (lt1 (sF w' (o + 6) 5 c) (fun u7 => some (Sum.inl ((c + (-1)), u7)))) (PS (fun s' : Int32 × rg_U => (wkX u0 s'.2 ∧ -1 ≤ s'.1.toInt ∧ s'.1.toInt ≤ 799) ∧ (s'.1.toInt + 1).toNat < (c.toInt + 1).toNat) (fun w : rg_U => wkX u0 w)) := fun w' hw' => tt_lt (tt_l ⟨⟨wx_b hw' (by omega) (tb_L ho) h4 (by omega), by dsimp only; omega⟩, by dsimp only; omega⟩)
    exact tt_ck (hr q) (tt_if (fun _ => tt_ck (hr q) (tt_ob (k_addFirst h0) (fun w' hw' => fin w' hw'))) (fun _ => fin w h0))
  · dsimp only
    omega
  · dsimp only
    exact ⟨h, by omega⟩
theorem k_dropPuts (h : wkX u0 u) (ho : isRn o) (hF : 10000 < F) : Tt (g_X6_dropBehind F (o + 12) x u) (fun w => wkX u0 w) := by
  have hg := rn_ge ho
  have hb := b_P h ho
  have hs := t_s1 (x := rF u (o + 12) 11) (by omega)
  unfold g_X6_dropBehind
  refine tt_b (tt_lp (I := fun s => wkX u0 s.2 ∧ -1 ≤ s.1.toInt ∧ s.1.toInt ≤ 3799) (m := fun s => (s.1.toInt + 1).toNat) (P := fun w => wkX u0 w) ?_ F _ ?_ ?_) (fun _ q => q)
  · rintro ⟨c, w⟩ ⟨h0, h1, h2⟩
    dsimp only at h0 h1 h2 ⊢
    unfold g_X6_dropBehind_l7 g_X6_dropBehind_j49
    refine tt_if (fun _ => tt_r h0) (fun h3 => tt_ob z_timeOf6 (fun r hr => tt_if (fun _ => tt_r h0) (fun q => ?_)))
    have h4 : 0 ≤ c.toInt := by
      rw [Int32.lt_iff_toInt_lt, t_0] at h3
      omega
    have hi : inb c 3800 := by constructor <;> omega
    have := t_d1 (x := c) (by omega)
    have fin : ∀ w', wkX u0 w' → Tt (lt1 (sF w' (o + 12) 11 c) (fun u7 => some (Sum.inl ((c + (-1)), u7)))) (PS (fun s' : Int32 × rg_U => (wkX u0 s'.2 ∧ -1 ≤ s'.1.toInt ∧ s'.1.toInt ≤ 3799) ∧ (s'.1.toInt + 1).toNat < (c.toInt + 1).toNat) (fun w : rg_U => wkX u0 w)) := fun w' hw' => tt_lt (tt_l ⟨⟨wx_b hw' (by omega) (tb_P ho) h4 (by omega), by dsimp only; omega⟩, by dsimp only; omega⟩)
    exact tt_ck hi (tt_if (fun _ => fin w h0) (fun hp => tt_ck hi (tt_ck hi (tt_ck (z_place hp) (tt_lt (fin _ (wx_A h0 (by omega))))))))
  · dsimp only
    omega
  · dsimp only
    exact ⟨h, by omega⟩
theorem k_goBack (h : wkX u0 u) (ho : isRn o) (hF : 10000 < F) : Tt (g_X7_goBack F o x u) (fun w => wkX u0 w) := by
  have hg := rn_ge ho
  unfold g_X7_goBack
  refine tt_ob z_hasT (fun r hr => tt_if (fun _ => tt_s h) (fun q => tt_ob (k_dropLog h ho hF) (fun _ h1 => tt_ob (k_dropPuts h1 ho hF) (fun _ h2 => tt_ob (k_dropFrom h2 ho hF) (fun _ h3 => tt_ob (k_dropAbove h3 ho hF) (fun _ h4 => tt_lt (tt_lt (tt_lt (tt_s ?_)))))))))
  have hi := hr q
  exact wx_n (wx_n (wx_b h4 (by omega) (tb_9 ho) hi.1 (by have := hi.2; omega)) (by omega) (tn_10 ho)) (by omega) (tn_13 ho)
theorem k_copyRow {o0 o1 N : Nat} (h : wkX u0 u) (hj : 6 ≤ o1) (hN : N < 2 ^ 31) : Tt (g_X9_copyRow F o0 N o1 N x u) (fun w => wkX u0 w) := by
  unfold g_X9_copyRow
  have eN : (Int32.ofNat N).toInt = N := nI_toInt (n := N) hN
  have e1 : imin (Int32.ofNat N) (Int32.ofNat N) = Int32.ofNat N := by
    unfold imin
    split <;> rfl
  rw [e1]
  refine tt_if (fun _ => tt_s h) (fun h1 => tt_ck ?_ (tt_lt (tt_s (wx_up h hj))))
  have hle : (imin x (Int32.ofNat N)).toInt ≤ N := by
    unfold imin
    by_cases q : Int32.ofNat N < x
    · rw [if_pos q, eN]; omega
    · rw [if_neg q]
      rw [Int32.lt_iff_toInt_lt, eN] at q
      omega
  rw [Int32.le_iff_toInt_le, t_0] at h1
  obtain ⟨n, hn, e⟩ := t_nI (x := imin x (Int32.ofNat N)) (N := N) (by omega) hle
  rw [e]
  unfold cpok
  rw [nI_clamp (by omega), show (0 : Int32).toNatClampNeg = 0 from rfl, Nat.zero_add]
  exact ⟨⟨by decide, by decide, nI_pos (by omega)⟩, hn, hn⟩
theorem k_take5 (h : wkX u0 u) (ho : isRn o) (ho' : isRn o') (hn : o ≠ o') (hF : 10000 < F) : Tt (g_X5_takeFrom F (o + 1) (o' + 1) u) (fun w => wkX u0 w) := by
  have hd : o + 1 + 4 < o' + 1 + 1 ∨ o' + 1 + 4 < o + 1 + 1 := by
    rcases ho with rfl | rfl | rfl | rfl | rfl <;> rcases ho' with rfl | rfl | rfl | rfl | rfl <;> omega
  have hg := rn_ge ho
  obtain ⟨w, e, h0, hv⟩ := c_takeFromP (F := F) (o := o + 1) (p := o' + 1) (u := u) hd (by omega)
  refine ⟨w, e, fun p hp => by rw [h0.1]; exact h.1 p hp, fun i hi => by rw [h0.1]; exact h.2.1 i hi, fun j hj => ?_, by rw [h0.2]; exact h.2.2.2⟩
  rw [← h.2.2.1 j hj]
  funext i
  rw [hv, if_neg (by omega)]
theorem k_take1 (h : wkX u0 u) (ho : isRn o) (ho' : isRn o') : Tt (g_X1_takeFrom F (o + 24) (o' + 24) u) (fun w => wkX u0 w) := by
  have hg := rn_ge ho
  unfold g_X1_takeFrom
  refine tt_lt (tt_ob (k_copyRow (wx_b h (by omega) (tb_C ho) (b_C h ho').1 (b_C h ho').2) (by omega) (by decide)) (fun _ h1 => tt_ob (k_copyRow h1 (by omega) (by decide)) (fun _ h2 => tt_b (k_copyRow h2 (by omega) (by decide)) (fun _ q => q))))
theorem k_take2 (h : wkX u0 u) (ho : isRn o) (ho' : isRn o') : Tt (g_X2_takeFrom F (o + 28) (o' + 28) u) (fun w => wkX u0 w) := by
  have hg := rn_ge ho
  unfold g_X2_takeFrom
  refine tt_lt (tt_ob (k_copyRow (wx_b h (by omega) (tb_H ho) (b_H h ho').1 (b_H h ho').2) (by omega) (by decide)) (fun _ h1 => tt_lt (tt_lt (tt_lt (tt_s (wx_n (wx_n (wx_n h1 (by omega) (tn_H2 ho)) (by omega) (tn_H3 ho)) (by omega) (tn_H4 ho)))))))
theorem k_take3 (h : wkX u0 u) (ho : isRn o) (ho' : isRn o') : Tt (g_X3_takeFrom F (o + 6) (o' + 6) u) (fun w => wkX u0 w) := by
  have hg := rn_ge ho
  unfold g_X3_takeFrom
  refine tt_lt (tt_ob (k_copyRow (wx_b h (by omega) (tb_L ho) (b_L h ho').1 (b_L h ho').2) (by omega) (by decide)) (fun _ h1 => tt_ob (k_copyRow h1 (by omega) (by decide)) (fun _ h2 => tt_ob (k_copyRow h2 (by omega) (by decide)) (fun _ h3 => tt_ob (k_copyRow h3 (by omega) (by decide)) (fun _ h4 => tt_b (k_copyRow h4 (by omega) (by decide)) (fun _ q => q))))))
theorem k_take6 (h : wkX u0 u) (ho : isRn o) (ho' : isRn o') : Tt (g_X6_takeFrom F (o + 12) (o' + 12) u) (fun w => wkX u0 w) := by
  have hg := rn_ge ho
  unfold g_X6_takeFrom
  refine tt_lt (tt_ob (k_copyRow (wx_b h (by omega) (tb_P ho) (b_P h ho').1 (b_P h ho').2) (by omega) (by decide)) (fun _ h1 => tt_ob (k_copyRow h1 (by omega) (by decide)) (fun _ h2 => tt_ob (k_copyRow h2 (by omega) (by decide)) (fun _ h3 => tt_ob (k_copyRow h3 (by omega) (by decide)) (fun _ h4 => tt_ob (k_copyRow h4 (by omega) (by decide)) (fun _ h5 => tt_ob (k_copyRow h5 (by omega) (by decide)) (fun _ h6 => tt_ob (k_copyRow h6 (by omega) (by decide)) (fun _ h7 => tt_ob (k_copyRow h7 (by omega) (by decide)) (fun _ h8 => tt_ob (k_copyRow h8 (by omega) (by decide)) (fun _ h9 => tt_ob (k_copyRow h9 (by omega) (by decide)) (fun _ h10 => tt_b (k_copyRow h10 (by omega) (by decide)) (fun _ q => q))))))))))))
theorem k_take7 (h : wkX u0 u) (ho : isRn o) (ho' : isRn o') (hn : o ≠ o') (hF : 10000 < F) : Tt (g_X7_takeFrom F o o' x u) (fun w => wkX u0 w) := by
  have hg := rn_ge ho
  unfold g_X7_takeFrom
  refine tt_ob (k_take5 h ho ho' hn hF) (fun _ h1 => tt_ob (k_take3 h1 ho ho') (fun _ h2 => tt_ob (k_take6 h2 ho ho') (fun _ h3 => tt_ob (k_take1 h3 ho ho') (fun _ h4 => tt_ob (k_take2 h4 ho ho') (fun _ h5 => tt_lt (tt_ob (k_copyRow (wx_b h5 (by omega) (tb_9 ho) (b_9 h5 ho').1 (b_9 h5 ho').2) (by omega) (by decide)) (fun _ h6 => tt_ob (k_copyRow h6 (by omega) (by decide)) (fun _ h7 => tt_ob (k_copyRow h7 (by omega) (by decide)) (fun _ h8 => tt_ob (k_copyRow h8 (by omega) (by decide)) (fun _ h9 => tt_lt (tt_lt (tt_lt (tt_lt (tt_s (wx_n (wx_n (wx_n (wx_n h9 (by omega) (tn_10 ho)) (by omega) (tn_12 ho)) (by omega) (tn_13 ho)) (by omega) (tn_14 ho))))))))))))))))
/-! marks -/
theorem k_unmark (h : wkX u0 u) (hF : 10000 < F) : Tt (g_X6_unmarkAll F o 115 3800 u) (fun w => wkX u0 w) := by
  have eN : (Int32.ofNat 3800).toInt = 3800 := rfl
  unfold g_X6_unmarkAll
  refine tt_b (tt_lp (I := fun s => wkX u0 s.2 ∧ 0 ≤ s.1.toInt ∧ s.1.toInt ≤ 3800) (m := fun s => (3800 - s.1.toInt).toNat) (P := fun w => wkX u0 w) ?_ F _ ?_ ?_) (fun _ q => q)
  · rintro ⟨c, w⟩ ⟨h0, h1, h2⟩
    dsimp only at h0 h1 h2 ⊢
    unfold g_X6_unmarkAll_l2
    refine tt_if (fun _ => tt_r h0) (fun _ => tt_if (fun _ => tt_r h0) (fun h3 => ?_))
    rw [Int32.le_iff_toInt_le, eN] at h3
    have hi : inb c 3800 := by constructor <;> omega
    have := t_a1 (x := c) (by omega)
    exact tt_ck hi (tt_lt (tt_l ⟨⟨wx_Z h0 (by decide), by dsimp only; omega⟩, by dsimp only; omega⟩))
  · dsimp only
    rw [t_0]
    omega
  · dsimp only
    rw [t_0]
    exact ⟨h, by omega⟩
theorem k_mark (h : wkX u0 u) : Tt (g_X6_mark F o 115 3800 x u) (fun w => wkX u0 w) := by
  unfold g_X6_mark
  exact tt_ob z_has6 (fun r hr => tt_if (fun _ => tt_s h) (fun q => tt_if (fun _ => tt_s h) (fun _ => tt_ck (hr q) (tt_lt (tt_s (wx_Z h (by decide)))))))
theorem k_markBelow (h : wkX u0 u) (ho : isRn o) (hF : 10000 < F) : Tt (g_X6_markAllBelow F (o + 12) x 115 3800 u) (fun w => wkX u0 w) := by
  unfold g_X6_markAllBelow
  refine tt_ob (k_unmark h hF) (fun _ h1 => tt_ob (k_mark h1) (fun w2 h2 => tt_b (tt_lp (I := fun s => wkX u0 s.2 ∧ s.1.toInt ≤ 3799) (m := fun s => (s.1.toInt + 1).toNat) (P := fun w => wkX u0 w) ?_ F _ ?_ ?_) (fun _ q => q)))
  · rintro ⟨c, w⟩ ⟨h0, h3⟩
    dsimp only at h0 h3 ⊢
    unfold g_X6_markAllBelow_l22
    refine tt_if (fun _ => tt_r h0) (fun h4 => ?_)
    rw [Int32.lt_iff_toInt_lt, t_0] at h4
    have hi : inb c 3800 := by constructor <;> omega
    have := t_d1 (x := c) (by omega)
    have fin : ∀ w', wkX u0 w' → Tt (g_X6_markAllBelow_j56 F (o + 12) 115 3800 c w') (PS (fun s' : Int32 × rg_U => (wkX u0 s'.2 ∧ s'.1.toInt ≤ 3799) ∧ (s'.1.toInt + 1).toNat < (c.toInt + 1).toNat) (fun w : rg_U => wkX u0 w)) := fun w' hw' => tt_l ⟨⟨hw', by dsimp only; omega⟩, by dsimp only; omega⟩
    exact tt_ob (z_isMarked (by decide)) (fun _ _ => tt_if (fun _ => fin _ h0) (fun _ => tt_ck hi (tt_ob (k_mark h0) (fun _ h5 => tt_ck hi (tt_ob (k_mark h5) (fun _ h6 => fin _ h6))))))
  all_goals
    have hb := b_P h2 ho
    have hs := t_s1 (x := rF w2 (o + 12) 11) (by omega)
    have hm : (imin x (rF w2 (o + 12) 11 - 1)).toInt ≤ 3799 := by
      unfold imin
      by_cases q : rF w2 (o + 12) 11 - 1 < x
      · rw [if_pos q]; omega
      · rw [if_neg q]
        rw [Int32.lt_iff_toInt_lt] at q
        omega
    dsimp only
  · omega
  · exact ⟨h2, hm⟩
theorem k_markAbove (h : wkX u0 u) (hF : 10000 < F) : Tt (g_X6_markAllAbove F o x 115 3800 u) (fun w => wkX u0 w) := by
  unfold g_X6_markAllAbove
  refine tt_ob (k_unmark h hF) (fun w1 h1 => tt_b (tt_lp (I := fun s => wkX u0 s.2 ∧ 0 ≤ s.1.toInt ∧ s.1.toInt ≤ 3800) (m := fun s => (3800 - s.1.toInt).toNat) (P := fun w => wkX u0 w) ?_ F _ ?_ ?_) (fun _ q => q))
  · rintro ⟨c, w⟩ ⟨h0, h3, h4⟩
    dsimp only at h0 h3 h4 ⊢
    unfold g_X6_markAllAbove_l7
    refine tt_if (fun _ => tt_r h0) (fun _ => tt_if (fun _ => tt_r h0) (fun h5 => ?_))
    rw [Int32.le_iff_toInt_le, t_3800] at h5
    have hi : inb c 3800 := by constructor <;> omega
    have := t_a1 (x := c) (by omega)
    have j64 : ∀ w', wkX u0 w' → Tt (g_X6_markAllAbove_j64 F o 115 3800 x c w') (PS (fun s' : Int32 × rg_U => (wkX u0 s'.2 ∧ 0 ≤ s'.1.toInt ∧ s'.1.toInt ≤ 3800) ∧ (3800 - s'.1.toInt).toNat < (3800 - c.toInt).toNat) (fun w : rg_U => wkX u0 w)) := fun w' hw' => tt_l ⟨⟨hw', by dsimp only; omega⟩, by dsimp only; omega⟩
    have j58 : Tt (g_X6_markAllAbove_j58 F o 115 3800 x c w) (PS (fun s' : Int32 × rg_U => (wkX u0 s'.2 ∧ 0 ≤ s'.1.toInt ∧ s'.1.toInt ≤ 3800) ∧ (3800 - s'.1.toInt).toNat < (3800 - c.toInt).toNat) (fun w : rg_U => wkX u0 w)) := by
      unfold g_X6_markAllAbove_j58
      exact tt_ob (k_mark h0) (fun _ h6 => j64 _ h6)
    exact tt_ck hi (tt_if (fun _ => j58) (fun _ => tt_ck hi (tt_ob (z_isMarked (by decide)) (fun _ _ => tt_if (fun _ => tt_ck hi (tt_ob (z_isMarked (by decide)) (fun _ _ => tt_if (fun _ => j64 _ h0) (fun _ => j58)))) (fun _ => j58)))))
  · dsimp only
    rw [t_0]
    omega
  · dsimp only
    rw [t_0]
    exact ⟨h1, by omega⟩
/-! two runs -/
theorem tt_row {α : Type} {f : Nat → Option α} {P : α → Prop} (hG : wkG u0) (h : wkX u0 u) (hx : inb x 101) (k : ∀ r, isRw r → Tt (f r) P) : Tt (om (rQ u 9 x) none (fun r => ck (isRw r) (f r))) P := by
  obtain ⟨n, hn, e⟩ := t_nI (x := x) (N := 100) hx.1 (by have := hx.2; omega)
  have e2 : rQ u 9 x = some (10 + n) := by
    unfold rQ
    rw [h.2.2.2, e, nI_clamp (by omega)]
    exact hG.2.2 n (by omega)
  have hr : isRw (10 + n) := ⟨by omega, by omega⟩
  rw [e2, om_i]
  exact tt_ck hr (k _ hr)
theorem k_pairs37 {l4 l5 : Int32} (hG : wkG u0) (h : wkX u0 u) (h5 : 0 ≤ l5.toInt ∧ l5.toInt ≤ 99) (h4 : 0 ≤ l4.toInt ∧ l4.toInt ≤ 100) (hF : 10000 < F) : Tt (lp (fun (s : (Int32 × rg_U)) => g_X0_countPairs_l37 F o o' l4 l5 s.1 s.2) F (l4 - 1, u)) (fun w => wkX u0 w) := by
  have hs := t_s1 (x := l4) (by omega)
  have h51 := t_a1 (x := l5) (by omega)
  have i5 : inb l5 101 := by constructor <;> omega
  have i51 : inb (l5 + 1) 101 := by constructor <;> omega
  refine tt_lp (I := fun s => wkX u0 s.2 ∧ -1 ≤ s.1.toInt ∧ s.1.toInt ≤ 99) (m := fun s => (s.1.toInt + 1).toNat) (P := fun w => wkX u0 w) ?_ F _ ?_ ?_
  · rintro ⟨c, w⟩ ⟨h0, h1, h2⟩
    dsimp only at h0 h1 h2 ⊢
    unfold g_X0_countPairs_l37
    refine tt_if (fun _ => tt_r h0) (fun h3 => ?_)
    rw [Int32.lt_iff_toInt_lt, t_0] at h3
    have hc1 := t_a1 (x := c) (by omega)
    have hcd := t_d1 (x := c) (by omega)
    have ic : inb c 101 := by constructor <;> omega
    have ic1 : inb (c + 1) 101 := by constructor <;> omega
    have fin : ∀ p q, Tt (g_X0_countPairs_j103 F o o' l4 l5 c p q w) (PS (fun s' : Int32 × rg_U => (wkX u0 s'.2 ∧ -1 ≤ s'.1.toInt ∧ s'.1.toInt ≤ 99) ∧ (s'.1.toInt + 1).toNat < (c.toInt + 1).toNat) (fun w : rg_U => wkX u0 w)) := fun p q => by
      unfold g_X0_countPairs_j103
      exact tt_ck i5 (tt_row hG h0 i5 (fun r hr => tt_ck ic (tt_lt (tt_l ⟨⟨wx_A h0 (by have := hr.1; omega), by dsimp only; omega⟩, by dsimp only; omega⟩))))
    exact tt_ck i51 (tt_row hG h0 i51 (fun r hr => tt_ck ic (tt_ck i5 (tt_row hG h0 i5 (fun r2 hr2 => tt_ck ic1 (tt_ob z_isLike (fun _ _ => tt_if (fun _ => fin _ _) (fun _ => tt_ck i51 (tt_row hG h0 i51 (fun r3 hr3 => tt_ck ic1 (fin _ _)))))))))))
  · dsimp only
    omega
  · dsimp only
    exact ⟨h, by omega⟩
theorem k_countPairs (hG : wkG u0) (h : wkX u0 u) (h2 : 0 ≤ x.toInt ∧ x.toInt ≤ 100) (h4 : 0 ≤ y.toInt ∧ y.toInt ≤ 100) (hF : 10000 < F) : Tt (g_X0_countPairs F o x o' y u) (fun w => wkX u0 w) := by
  have hs := t_s1 (x := x) (by omega)
  have ix : inb x 101 := by constructor <;> omega
  have iy : inb y 101 := by constructor <;> omega
  unfold g_X0_countPairs
  refine tt_ck ix (tt_row hG h ix (fun r hr => tt_ob (Q := fun w => wkX u0 w) ⟨_, g_fill_eq (by decide) (by omega), wx_up h (by have := hr.1; omega)⟩ (fun w1 hw1 => tt_b (tt_lp (I := fun s => wkX u0 s.2 ∧ -1 ≤ s.1.toInt ∧ s.1.toInt ≤ 99) (m := fun s => (s.1.toInt + 1).toNat) (P := fun w => wkX u0 w) ?_ F _ ?_ ?_) (fun _ q => q))))
  · rintro ⟨c, w⟩ ⟨h0, h1, h3⟩
    dsimp only at h0 h1 h3 ⊢
    unfold g_X0_countPairs_l15
    refine tt_if (fun _ => tt_r h0) (fun h5 => ?_)
    rw [Int32.lt_iff_toInt_lt, t_0] at h5
    have hcd := t_d1 (x := c) (by omega)
    have ic : inb c 101 := by constructor <;> omega
    exact tt_ck ic (tt_row hG h0 ic (fun r2 hr2 => tt_ck iy (tt_lt (tt_ob (k_pairs37 hG (wx_A h0 (by have := hr2.1; omega)) (by omega) h4 hF) (fun w' hw' => tt_l ⟨⟨hw', by dsimp only; omega⟩, by dsimp only; omega⟩)))))
  · dsimp only
    omega
  · dsimp only
    exact ⟨hw1, by omega⟩
theorem k_choosePairs (hG : wkG u0) (h : wkX u0 u) (h2 : 0 ≤ x.toInt ∧ x.toInt ≤ 100) (h4 : 0 ≤ y.toInt ∧ y.toInt ≤ 100) (hF : 10000 < F) : Tt (g_X0_choosePairs F o x o' y u) (fun w => wkX u0 w) := by
  unfold g_X0_choosePairs
  refine tt_lt (tt_b (tt_lp (I := fun s => wkX u0 s.2.2 ∧ (0 ≤ s.1.toInt ∧ s.1.toInt ≤ 100) ∧ (0 ≤ s.2.1.toInt ∧ s.2.1.toInt ≤ 100) ∧ 0 ≤ (rF s.2.2 8 3).toInt) (m := fun s => (100 - s.2.1.toInt).toNat) (P := fun w => wkX u0 w) ?_ F _ ?_ ?_) (fun _ q => q))
  · rintro ⟨a, c, w⟩ ⟨h0, h1, h3, h5⟩
    dsimp only at h0 h1 h3 h5 ⊢
    unfold g_X0_choosePairs_l11
    refine tt_if (fun _ => tt_r h0) (fun h6 => tt_if (fun _ => tt_r h0) (fun h7 => ?_))
    rw [Int32.le_iff_toInt_le] at h6
    rw [Int32.le_iff_toInt_le, t_100] at h7
    have hc1 := t_a1 (x := c) (by omega)
    have ic : inb c 101 := by constructor <;> omega
    have ic1 : inb (c + 1) 101 := by constructor <;> omega
    have ia : inb a 101 := by constructor <;> omega
    have ip : inb (rF w 8 3) 100 := by constructor <;> omega
    have hp1 := t_a1 (x := rF w 8 3) (by omega)
    refine tt_ob (tt_lp (I := fun s => 0 ≤ s.toInt ∧ s.toInt ≤ 100) (m := fun s => (100 - s.toInt).toNat) (P := fun s => 0 ≤ s.toInt ∧ s.toInt ≤ 100) ?_ F _ ?_ ?_) (fun r hr => ?_)
    · intro d hd
      unfold g_X0_choosePairs_l30
      refine tt_if (fun _ => tt_r hd) (fun h8 => ?_)
      rw [Int32.le_iff_toInt_le] at h8
      have hd1 := t_a1 (x := d) (by omega)
      have id1 : inb (d + 1) 101 := by constructor <;> omega
      have fin : Tt (g_X0_choosePairs_j78 F o o' x y a c d w) (PS (fun s' : Int32 => (0 ≤ s'.toInt ∧ s'.toInt ≤ 100) ∧ (100 - s'.toInt).toNat < (100 - d.toInt).toNat) (fun s : Int32 => 0 ≤ s.toInt ∧ s.toInt ≤ 100)) := tt_l (by omega)
      exact tt_ob z_isLike (fun _ _ => tt_if (fun _ => fin) (fun _ => tt_ck ic1 (tt_row hG h0 ic1 (fun r hr => tt_ck id1 (tt_ck ic (tt_row hG h0 ic (fun r2 hr2 => tt_ck ia (tt_if (fun _ => tt_r hd) (fun _ => fin)))))))))
    · omega
    · exact h1
    · unfold g_X0_choosePairs_j84
      have fin : ∀ (a' : Int32) (w' : rg_U), wkX u0 w' → (0 ≤ a'.toInt ∧ a'.toInt ≤ 100) → 0 ≤ (rF w' 8 3).toInt → Tt (g_X0_choosePairs_j129 F o o' x y a' c w') (PS (fun s' : Int32 × Int32 × rg_U => (wkX u0 s'.2.2 ∧ (0 ≤ s'.1.toInt ∧ s'.1.toInt ≤ 100) ∧ (0 ≤ s'.2.1.toInt ∧ s'.2.1.toInt ≤ 100) ∧ 0 ≤ (rF s'.2.2 8 3).toInt) ∧ (100 - s'.2.1.toInt).toNat < (100 - c.toInt).toNat) (fun w : rg_U => wkX u0 w)) := fun a' w' hw' ha' hp' => tt_l ⟨⟨hw', ha', by dsimp only; omega, hp'⟩, by dsimp only; omega⟩
      refine tt_if (fun _ => fin _ _ h0 h1 h5) (fun h9 => ?_)
      rw [Int32.le_iff_toInt_le] at h9
      have hr1 := t_a1 (x := r) (by omega)
      refine tt_ck ip (tt_lt (tt_ck ip (tt_lt (tt_lt (fin _ _ (wx_n (wx_A (wx_A h0 (by decide)) (by decide)) (by decide) (by decide)) (by omega) ?_)))))
      show 0 ≤ (rF w 8 3 + 1).toInt
      omega
  · dsimp only
    rw [t_0]
    omega
  · dsimp only
    exact ⟨wx_n h (by decide) (by decide), by rw [t_0]; omega, by rw [t_0]; omega, by show 0 ≤ (0 : Int32).toInt; decide⟩
theorem t_imin {N : Int} (hx : 0 ≤ x.toInt) (hy : 0 ≤ y.toInt) (hN : y.toInt ≤ N) : 0 ≤ (imin x y).toInt ∧ (imin x y).toInt ≤ N := by
  unfold imin
  by_cases q : y < x
  · rw [if_pos q]; exact ⟨hy, hN⟩
  · rw [if_neg q]
    rw [Int32.lt_iff_toInt_lt] at q
    exact ⟨hx, by omega⟩
theorem k_lay (hG : wkG u0) (h : wkX u0 u) (ho : isRn o) (ho' : isRn o') (hF : 10000 < F) : Tt (g_X0_lay F (o + 24) (o' + 24) u) (fun w => wkX u0 w) := by
  have h1 := t_imin (x := rF u (o + 24) 3) (y := 100) (N := 100) (b_C h ho).1 (by decide) (by decide)
  have h2 := t_imin (x := rF u (o' + 24) 3) (y := 100) (N := 100) (b_C h ho').1 (by decide) (by decide)
  unfold g_X0_lay
  exact tt_ob (k_countPairs hG h h1 h2 hF) (fun _ h3 => tt_b (k_choosePairs hG h3 h1 h2 hF) (fun _ q => q))
theorem k_goThrough {p : Nat} (h : wkX u0 u) (ho : isRn o) (hp : 6 ≤ p) (hx : 0 ≤ x.toInt ∧ x.toInt ≤ 3800) (hF : 10000 < F) : Tt (g_X0_goThrough F (o + 12) x y p 40 u) (fun z => wkX u0 z.2 ∧ 0 ≤ z.1.toInt ∧ z.1.toInt ≤ 3800) := by
  have eN : (Int32.ofNat 40).toInt = 40 := rfl
  unfold g_X0_goThrough
  refine tt_b (tt_lp (I := fun s => wkX u0 s.2 ∧ 0 ≤ s.1.toInt ∧ s.1.toInt ≤ 3800) (m := fun s => (3800 - s.1.toInt).toNat) (P := fun z => wkX u0 z.2 ∧ 0 ≤ z.1.toInt ∧ z.1.toInt ≤ 3800) ?_ F _ ?_ ?_) (fun _ q => q)
  · rintro ⟨c, w⟩ ⟨h0, h1, h2⟩
    dsimp only at h0 h1 h2 ⊢
    have hb := b_P h0 ho
    unfold g_X0_goThrough_l3
    refine tt_if (fun _ => tt_r ⟨h0, h1, h2⟩) (fun h3 => ?_)
    rw [Int32.le_iff_toInt_le] at h3
    have := t_a1 (x := c) (by omega)
    have fin : ∀ w', wkX u0 w' → Tt (g_X0_goThrough_j48 F (o + 12) p 40 y c w') (PS (fun s' : Int32 × rg_U => (wkX u0 s'.2 ∧ 0 ≤ s'.1.toInt ∧ s'.1.toInt ≤ 3800) ∧ (3800 - s'.1.toInt).toNat < (3800 - c.toInt).toNat) (fun z : Int32 × rg_U => wkX u0 z.2 ∧ 0 ≤ z.1.toInt ∧ z.1.toInt ≤ 3800)) := fun w' hw' => tt_l ⟨⟨hw', by dsimp only; omega⟩, by dsimp only; omega⟩
    refine tt_ob z_timeOf6 (fun _ _ => tt_if (fun _ => tt_r ⟨h0, h1, h2⟩) (fun _ => tt_ob z_placeOf (fun r _ => tt_if (fun _ => fin _ h0) (fun h4 => tt_if (fun _ => fin _ h0) (fun h5 => tt_ck ?_ (tt_lt (fin _ (wx_A h0 hp))))))))
    rw [Int32.lt_iff_toInt_lt, t_0] at h4
    rw [Int32.le_iff_toInt_le, eN] at h5
    constructor <;> omega
  · dsimp only
    omega
  · exact ⟨h, hx⟩
theorem k_areUnlike {p1 p2 p3 : Nat} (hx : 0 ≤ x.toInt ∧ x.toInt ≤ 3800) (hy : 0 ≤ y.toInt ∧ y.toInt ≤ 3800) (hF : 10000 < F) : Tt (g_X0_areUnlike F p1 x y p2 p3 u) (fun _ => True) := by
  unfold g_X0_areUnlike
  refine tt_ob (tt_lp (I := fun s => 0 ≤ s.toInt ∧ s.toInt ≤ 3800) (m := fun s => (3800 - s.toInt).toNat) (P := fun _ => True) ?_ F _ ?_ ?_) (fun r _ => tt_os (fun _ _ => tt_s trivial) (fun _ _ => tt_s trivial))
  · intro c hc
    unfold g_X0_areUnlike_l3
    refine tt_if (fun _ => tt_r trivial) (fun h3 => ?_)
    rw [Int32.le_iff_toInt_le] at h3
    have := t_a1 (x := c) (by omega)
    have fin : Tt (g_X0_areUnlike_j65 F p1 p2 p3 y c u) (PS (fun s' : Int32 => (0 ≤ s'.toInt ∧ s'.toInt ≤ 3800) ∧ (3800 - s'.toInt).toNat < (3800 - c.toInt).toNat) (fun _ : Unit ⊕ Unit => True)) := tt_l (by omega)
    exact tt_ob z_placeOf (fun r _ => tt_if (fun _ => fin) (fun hp => tt_ck (z_place hp) (tt_ck (z_place hp) (tt_ob z_sortOf (fun _ _ => tt_ob z_numberOf (fun _ _ => tt_ob z_hasValue (fun _ _ => tt_if (fun _ => tt_r trivial) (fun _ => fin))))))))
  · try dsimp only
    omega
  · exact hx
theorem k_firstUnlike (h : wkX u0 u) (ho : isRn o) (ho' : isRn o') (hF : 10000 < F) : Tt (g_X0_firstUnlike F o o' u) (fun z => wkX u0 z.2) := by
  unfold g_X0_firstUnlike
  refine tt_ob (Q := fun w => wkX u0 w) ⟨_, g_fill_eq (by decide) (by omega), wx_up h (by decide)⟩ (fun w1 h1 => tt_ob (Q := fun w => wkX u0 w) ⟨_, g_fill_eq (by decide) (by omega), wx_up h1 (by decide)⟩ (fun w2 h2 => ?_))
  have hm := t_imin (x := rF w2 o 9) (y := rF w2 o' 9) (N := 3000) (b_9 h2 ho).1 (b_9 h2 ho').1 (b_9 h2 ho').2
  refine tt_ob (tt_lp (I := fun s => wkX u0 s.2.2.2 ∧ (0 ≤ s.1.toInt ∧ s.1.toInt ≤ 3800) ∧ (0 ≤ s.2.1.toInt ∧ s.2.1.toInt ≤ 3800) ∧ (0 ≤ s.2.2.1.toInt ∧ s.2.2.1.toInt ≤ 3001)) (m := fun s => (3001 - s.2.2.1.toInt).toNat) (P := fun r => (∀ a, r = Sum.inl a → wkX u0 a.2) ∧ ∀ a, r = Sum.inr a → wkX u0 a) ?_ F _ ?_ ?_) (fun r hr => tt_os (fun a ha => tt_s (hr.1 a ha)) (fun a ha => tt_s (hr.2 a ha)))
  · rintro ⟨a, c, t, w⟩ ⟨h0, ha, hc, ht⟩
    dsimp only at h0 ha hc ht ⊢
    unfold g_X0_firstUnlike_l37
    refine tt_if (fun _ => tt_r ⟨fun a q => (by cases q), fun a q => (by cases q; exact h0)⟩) (fun h3 => ?_)
    rw [Int32.lt_iff_toInt_lt] at h3
    have h4 := t_a1 (x := t) (by omega)
    refine tt_ob (k_goThrough h0 ho (by decide) ha hF) (fun r1 hr1 => tt_ob (k_goThrough hr1.1 ho' (by decide) hc hF) (fun r2 hr2 => ?_))
    have ex : Tt (some (Sum.inr (Sum.inl (t, r2.2))) : Option ((Int32 × Int32 × Int32 × rg_U) ⊕ ((Int32 × rg_U) ⊕ rg_U))) (PS (fun s' : Int32 × Int32 × Int32 × rg_U => (wkX u0 s'.2.2.2 ∧ (0 ≤ s'.1.toInt ∧ s'.1.toInt ≤ 3800) ∧ (0 ≤ s'.2.1.toInt ∧ s'.2.1.toInt ≤ 3800) ∧ (0 ≤ s'.2.2.1.toInt ∧ s'.2.2.1.toInt ≤ 3001)) ∧ (3001 - s'.2.2.1.toInt).toNat < (3001 - t.toInt).toNat) (fun r : (Int32 × rg_U) ⊕ rg_U => (∀ a, r = Sum.inl a → wkX u0 a.2) ∧ ∀ a, r = Sum.inr a → wkX u0 a)) := tt_r ⟨fun a q => (by cases q; exact hr2.1), fun a q => (by cases q)⟩
    exact tt_ob z_counterAt (fun _ _ => tt_ob z_counterAt (fun _ _ => tt_if (fun _ => tt_ob (z_stackLike hF) (fun _ _ => tt_if (fun _ => ex) (fun _ => tt_ob (k_areUnlike ha hr1.2 hF) (fun _ _ => tt_if (fun _ => tt_ob (k_areUnlike hc hr2.2 hF) (fun _ _ => tt_if (fun _ => tt_l ⟨⟨hr2.1, hr1.2, hr2.2, by dsimp only; omega⟩, by dsimp only; omega⟩) (fun _ => ex))) (fun _ => ex))))) (fun _ => ex)))
  · dsimp only
    rw [t_0]
    omega
  · dsimp only
    rw [t_0]
    exact ⟨h2, by omega, by omega, by omega⟩
end WKN
