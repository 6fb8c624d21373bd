/-! the class: what calls that only read leave as it was -/
abbrev isCn (k : Nat) : Prop := k = 11612 ∨ k = 15112 ∨ k = 18512 ∨ k = 21912 ∨ k = 25312
/-- only marks, pairs and counts of replays are other -/
def wyX (u0 u : rg_U) : Prop := wkB u ∧ u.2.2 = u0.2.2 ∧ (∀ j, (j < 8 ∨ 116 ≤ j) → u.2.1 j = u0.2.1 j) ∧ ∀ k, k ≠ 13 → k ≠ 803 → ¬ isCn k → u.1 k = u0.1 k
section WY
variable {F o o' j s : Nat} {x y z v i a b c d e : Int32} {u0 u w : rg_U}
theorem wy_r (h : wkB u) : wyX u u := ⟨h, rfl, fun _ _ => rfl, fun _ _ _ _ => rfl⟩
theorem wy_k (h : wyX u0 u) : wkX u0 u := ⟨h.1, fun i hi => h.2.2.2 i (by omega) (by omega) (by omega), fun j hj => h.2.2.1 j (by omega), h.2.1⟩
theorem wy_R {k : Nat} (h : wyX u0 u) (hj : 8 ≤ j ∧ j < 116) : wyX u0 (rg_R u j k v) := ⟨h.1, h.2.1, fun j' hj' => (R_n (by omega)).trans (h.2.2.1 j' hj'), h.2.2.2⟩
theorem wy_A (h : wyX u0 u) (hj : 8 ≤ j ∧ j < 116) : wyX u0 (sA u j i v) := wy_R h hj
theorem wy_Z (h : wyX u0 u) (hj : 8 ≤ j ∧ j < 116) : wyX u0 (sZ u j i v) := wy_R h hj
theorem wy_up {f : Nat → Int32} (h : wyX u0 u) (hj : 8 ≤ j ∧ j < 116) : wyX u0 (u.1, va_up u.2.1 j f, u.2.2) := ⟨h.1, h.2.1, fun j' hj' => by
  rw [← h.2.2.1 j' hj']
  show va_up u.2.1 j f j' = _
  exact pm_up_n (by omega), h.2.2.2⟩
theorem wy_f {k : Nat} (h : wyX u0 u) (hk : k = 13 ∨ k = 803 ∨ isCn k) (hn : wkN k) : wyX u0 (rg_F u k v) := by
  refine ⟨fun p hp => ?_, h.2.1, h.2.2.1, fun i i1 i2 i3 => ?_⟩
  · show 0 ≤ (upd u.1 k v p.1).toInt ∧ (upd u.1 k v p.1).toInt ≤ p.2
    rw [pk_un (hn p hp)]
    exact h.1 p hp
  · show upd u.1 k v i = _
    rw [pk_un (by omega)]
    exact h.2.2.2 i i1 i2 i3
theorem wy_13 (h : wyX u0 u) : wyX u0 (sF u 0 13 v) := wy_f h (Or.inl rfl) (by decide)
theorem wy_803 (h : wyX u0 u) : wyX u0 (sF u 8 3 v) := wy_f h (Or.inr (Or.inl rfl)) (by decide)
theorem wy_12 (h : wyX u0 u) (ho : isRn o) : wyX u0 (sF u o 12 v) := wy_f h (Or.inr (Or.inr (by rcases ho with rfl | rfl | rfl | rfl | rfl <;> decide))) (tn_12 ho)
theorem y_unmark (h : wyX u0 u) (hF : 10000 < F) : Tt (g_X6_unmarkAll F o 115 3800 u) (fun w => wyX u0 w) := by
  have eN : (Int32.ofNat 3800).toInt = 3800 := rfl
  unfold g_X6_unmarkAll
  refine tt_b (tt_lp (I := fun s => wyX u0 s.2 ∧ 0 ≤ s.1.toInt ∧ s.1.toInt ≤ 3800) (m := fun s => (3800 - s.1.toInt).toNat) (P := fun w => wyX u0 w) ?_ F _ ?_ ?_) (fun _ q => q)
  · rintro ⟨c, w⟩ ⟨h0, h1, h2⟩
    dsimp only at h0 h1 h2 ⊢
    unfold g_X6_unmarkAll_l2
    refine tt_if (fun _ => tt_r h0) (fun _ => tt_if (fun _ => tt_r h0) (fun h3 => ?_))
    rw [Int32.le_iff_toInt_le, eN] at h3
    have hi : inb c 3800 := by constructor <;> omega
    have := t_a1 (x := c) (by omega)
    exact tt_ck hi (tt_lt (tt_l ⟨⟨wy_Z h0 (by decide), by dsimp only; omega⟩, by dsimp only; omega⟩))
  · dsimp only
    rw [t_0]
    omega
  · dsimp only
    rw [t_0]
    exact ⟨h, by omega⟩
theorem y_mark (h : wyX u0 u) : Tt (g_X6_mark F o 115 3800 x u) (fun w => wyX u0 w) := by
  unfold g_X6_mark
  exact tt_ob z_has6 (fun r hr => tt_if (fun _ => tt_s h) (fun q => tt_if (fun _ => tt_s h) (fun _ => tt_ck (hr q) (tt_lt (tt_s (wy_Z h (by decide)))))))
theorem y_markBelow (h : wyX u0 u) (ho : isRn o) (hF : 10000 < F) : Tt (g_X6_markAllBelow F (o + 12) x 115 3800 u) (fun w => wyX u0 w) := by
  unfold g_X6_markAllBelow
  refine tt_ob (y_unmark h hF) (fun _ h1 => tt_ob (y_mark h1) (fun w2 h2 => tt_b (tt_lp (I := fun s => wyX u0 s.2 ∧ s.1.toInt ≤ 3799) (m := fun s => (s.1.toInt + 1).toNat) (P := fun w => wyX u0 w) ?_ F _ ?_ ?_) (fun _ q => q)))
  · rintro ⟨c, w⟩ ⟨h0, h3⟩
    dsimp only at h0 h3 ⊢
    unfold g_X6_markAllBelow_l22
    refine tt_if (fun _ => tt_r h0) (fun h4 => ?_)
    rw [Int32.lt_iff_toInt_lt, t_0] at h4
    have hi : inb c 3800 := by constructor <;> omega
    have := t_d1 (x := c) (by omega)
    have fin : ∀ w', wyX u0 w' → Tt (g_X6_markAllBelow_j56 F (o + 12) 115 3800 c w') (PS (fun s' : Int32 × rg_U => (wyX u0 s'.2 ∧ s'.1.toInt ≤ 3799) ∧ (s'.1.toInt + 1).toNat < (c.toInt + 1).toNat) (fun w : rg_U => wyX u0 w)) := fun w' hw' => tt_l ⟨⟨hw', by dsimp only; omega⟩, by dsimp only; omega⟩
    exact tt_ob (z_isMarked (by decide)) (fun _ _ => tt_if (fun _ => fin _ h0) (fun _ => tt_ck hi (tt_ob (y_mark h0) (fun _ h5 => tt_ck hi (tt_ob (y_mark h5) (fun _ h6 => fin _ h6))))))
  all_goals
    have hb := b_P (wy_k h2) ho
    have hs := t_s1 (x := rF w2 (o + 12) 11) (by omega)
    have hm : (imin x (rF w2 (o + 12) 11 - 1)).toInt ≤ 3799 := by
      unfold imin
      by_cases q : rF w2 (o + 12) 11 - 1 < x
      · rw [if_pos q]; omega
      · rw [if_neg q]
        rw [Int32.lt_iff_toInt_lt] at q
        omega
    dsimp only
  · omega
  · exact ⟨h2, hm⟩
theorem y_markAbove (h : wyX u0 u) (hF : 10000 < F) : Tt (g_X6_markAllAbove F o x 115 3800 u) (fun w => wyX u0 w) := by
  unfold g_X6_markAllAbove
  refine tt_ob (y_unmark h hF) (fun w1 h1 => tt_b (tt_lp (I := fun s => wyX u0 s.2 ∧ 0 ≤ s.1.toInt ∧ s.1.toInt ≤ 3800) (m := fun s => (3800 - s.1.toInt).toNat) (P := fun w => wyX u0 w) ?_ F _ ?_ ?_) (fun _ q => q))
  · rintro ⟨c, w⟩ ⟨h0, h3, h4⟩
    dsimp only at h0 h3 h4 ⊢
    unfold g_X6_markAllAbove_l7
    refine tt_if (fun _ => tt_r h0) (fun _ => tt_if (fun _ => tt_r h0) (fun h5 => ?_))
    rw [Int32.le_iff_toInt_le, t_3800] at h5
    have hi : inb c 3800 := by constructor <;> omega
    have := t_a1 (x := c) (by omega)
    have j64 : ∀ w', wyX u0 w' → Tt (g_X6_markAllAbove_j64 F o 115 3800 x c w') (PS (fun s' : Int32 × rg_U => (wyX u0 s'.2 ∧ 0 ≤ s'.1.toInt ∧ s'.1.toInt ≤ 3800) ∧ (3800 - s'.1.toInt).toNat < (3800 - c.toInt).toNat) (fun w : rg_U => wyX u0 w)) := fun w' hw' => tt_l ⟨⟨hw', by dsimp only; omega⟩, by dsimp only; omega⟩
    have j58 : Tt (g_X6_markAllAbove_j58 F o 115 3800 x c w) (PS (fun s' : Int32 × rg_U => (wyX u0 s'.2 ∧ 0 ≤ s'.1.toInt ∧ s'.1.toInt ≤ 3800) ∧ (3800 - s'.1.toInt).toNat < (3800 - c.toInt).toNat) (fun w : rg_U => wyX u0 w)) := by
      unfold g_X6_markAllAbove_j58
      exact tt_ob (y_mark h0) (fun _ h6 => j64 _ h6)
    exact tt_ck hi (tt_if (fun _ => j58) (fun _ => tt_ck hi (tt_ob (z_isMarked (by decide)) (fun _ _ => tt_if (fun _ => tt_ck hi (tt_ob (z_isMarked (by decide)) (fun _ _ => tt_if (fun _ => j64 _ h0) (fun _ => j58)))) (fun _ => j58)))))
  · dsimp only
    rw [t_0]
    omega
  · dsimp only
    rw [t_0]
    exact ⟨h1, by omega⟩
theorem ty_row {α : Type} {f : Nat → Option α} {P : α → Prop} (hG : wkG u0) (h : wyX u0 u) (hx : inb x 101) (k : ∀ r, isRw r → Tt (f r) P) : Tt (om (rQ u 9 x) none (fun r => ck (isRw r) (f r))) P := by
  obtain ⟨n, hn, e⟩ := t_nI (x := x) (N := 100) hx.1 (by have := hx.2; omega)
  have e2 : rQ u 9 x = some (10 + n) := by
    unfold rQ
    rw [h.2.1, e, nI_clamp (by omega)]
    exact hG.2.2 n (by omega)
  have hr : isRw (10 + n) := ⟨by omega, by omega⟩
  rw [e2, om_i]
  exact tt_ck hr (k _ hr)
theorem y_pairs37 {l4 l5 : Int32} (hG : wkG u0) (h : wyX u0 u) (h5 : 0 ≤ l5.toInt ∧ l5.toInt ≤ 99) (h4 : 0 ≤ l4.toInt ∧ l4.toInt ≤ 100) (hF : 10000 < F) : Tt (lp (fun (s : (Int32 × rg_U)) => g_X0_countPairs_l37 F o o' l4 l5 s.1 s.2) F (l4 - 1, u)) (fun w => wyX u0 w) := by
  have hs := t_s1 (x := l4) (by omega)
  have h51 := t_a1 (x := l5) (by omega)
  have i5 : inb l5 101 := by constructor <;> omega
  have i51 : inb (l5 + 1) 101 := by constructor <;> omega
  refine tt_lp (I := fun s => wyX u0 s.2 ∧ -1 ≤ s.1.toInt ∧ s.1.toInt ≤ 99) (m := fun s => (s.1.toInt + 1).toNat) (P := fun w => wyX u0 w) ?_ F _ ?_ ?_
  · rintro ⟨c, w⟩ ⟨h0, h1, h2⟩
    dsimp only at h0 h1 h2 ⊢
    unfold g_X0_countPairs_l37
    refine tt_if (fun _ => tt_r h0) (fun h3 => ?_)
    rw [Int32.lt_iff_toInt_lt, t_0] at h3
    have hc1 := t_a1 (x := c) (by omega)
    have hcd := t_d1 (x := c) (by omega)
    have ic : inb c 101 := by constructor <;> omega
    have ic1 : inb (c + 1) 101 := by constructor <;> omega
    have fin : ∀ p q, Tt (g_X0_countPairs_j103 F o o' l4 l5 c p q w) (PS (fun s' : Int32 × rg_U => (wyX u0 s'.2 ∧ -1 ≤ s'.1.toInt ∧ s'.1.toInt ≤ 99) ∧ (s'.1.toInt + 1).toNat < (c.toInt + 1).toNat) (fun w : rg_U => wyX u0 w)) := fun p q => by
      unfold g_X0_countPairs_j103
      exact tt_ck i5 (ty_row hG h0 i5 (fun r hr => tt_ck ic (tt_lt (tt_l ⟨⟨wy_A h0 (by have := hr.1; have := hr.2; omega), by dsimp only; omega⟩, by dsimp only; omega⟩))))
    exact tt_ck i51 (ty_row hG h0 i51 (fun r hr => tt_ck ic (tt_ck i5 (ty_row hG h0 i5 (fun r2 hr2 => tt_ck ic1 (tt_ob z_isLike (fun _ _ => tt_if (fun _ => fin _ _) (fun _ => tt_ck i51 (ty_row hG h0 i51 (fun r3 hr3 => tt_ck ic1 (fin _ _)))))))))))
  · dsimp only
    omega
  · dsimp only
    exact ⟨h, by omega⟩
theorem y_countPairs (hG : wkG u0) (h : wyX u0 u) (h2 : 0 ≤ x.toInt ∧ x.toInt ≤ 100) (h4 : 0 ≤ y.toInt ∧ y.toInt ≤ 100) (hF : 10000 < F) : Tt (g_X0_countPairs F o x o' y u) (fun w => wyX u0 w) := by
  have hs := t_s1 (x := x) (by omega)
  have ix : inb x 101 := by constructor <;> omega
  have iy : inb y 101 := by constructor <;> omega
  unfold g_X0_countPairs
  refine tt_ck ix (ty_row hG h ix (fun r hr => tt_ob (Q := fun w => wyX u0 w) ⟨_, g_fill_eq (by decide) (by omega), wy_up h (by have := hr.1; have := hr.2; omega)⟩ (fun w1 hw1 => tt_b (tt_lp (I := fun s => wyX u0 s.2 ∧ -1 ≤ s.1.toInt ∧ s.1.toInt ≤ 99) (m := fun s => (s.1.toInt + 1).toNat) (P := fun w => wyX u0 w) ?_ F _ ?_ ?_) (fun _ q => q))))
  · rintro ⟨c, w⟩ ⟨h0, h1, h3⟩
    dsimp only at h0 h1 h3 ⊢
    unfold g_X0_countPairs_l15
    refine tt_if (fun _ => tt_r h0) (fun h5 => ?_)
    rw [Int32.lt_iff_toInt_lt, t_0] at h5
    have hcd := t_d1 (x := c) (by omega)
    have ic : inb c 101 := by constructor <;> omega
    exact tt_ck ic (ty_row hG h0 ic (fun r2 hr2 => tt_ck iy (tt_lt (tt_ob (y_pairs37 hG (wy_A h0 (by have := hr2.1; have := hr2.2; omega)) (by omega) h4 hF) (fun w' hw' => tt_l ⟨⟨hw', by dsimp only; omega⟩, by dsimp only; omega⟩)))))
  · dsimp only
    omega
  · dsimp only
    exact ⟨hw1, by omega⟩
theorem y_choosePairs (hG : wkG u0) (h : wyX u0 u) (h2 : 0 ≤ x.toInt ∧ x.toInt ≤ 100) (h4 : 0 ≤ y.toInt ∧ y.toInt ≤ 100) (hF : 10000 < F) : Tt (g_X0_choosePairs F o x o' y u) (fun w => wyX u0 w) := by
  unfold g_X0_choosePairs
  refine tt_lt (tt_b (tt_lp (I := fun s => wyX u0 s.2.2 ∧ (0 ≤ s.1.toInt ∧ s.1.toInt ≤ 100) ∧ (0 ≤ s.2.1.toInt ∧ s.2.1.toInt ≤ 100) ∧ 0 ≤ (rF s.2.2 8 3).toInt) (m := fun s => (100 - s.2.1.toInt).toNat) (P := fun w => wyX u0 w) ?_ F _ ?_ ?_) (fun _ q => q))
  · rintro ⟨a, c, w⟩ ⟨h0, h1, h3, h5⟩
    dsimp only at h0 h1 h3 h5 ⊢
    unfold g_X0_choosePairs_l11
    refine tt_if (fun _ => tt_r h0) (fun h6 => tt_if (fun _ => tt_r h0) (fun h7 => ?_))
    rw [Int32.le_iff_toInt_le] at h6
    rw [Int32.le_iff_toInt_le, t_100] at h7
    have hc1 := t_a1 (x := c) (by omega)
    have ic : inb c 101 := by constructor <;> omega
    have ic1 : inb (c + 1) 101 := by constructor <;> omega
    have ia : inb a 101 := by constructor <;> omega
    have ip : inb (rF w 8 3) 100 := by constructor <;> omega
    have hp1 := t_a1 (x := rF w 8 3) (by omega)
    refine tt_ob (tt_lp (I := fun s => 0 ≤ s.toInt ∧ s.toInt ≤ 100) (m := fun s => (100 - s.toInt).toNat) (P := fun s => 0 ≤ s.toInt ∧ s.toInt ≤ 100) ?_ F _ ?_ ?_) (fun r hr => ?_)
    · intro d hd
      unfold g_X0_choosePairs_l30
      refine tt_if (fun _ => tt_r hd) (fun h8 => ?_)
      rw [Int32.le_iff_toInt_le] at h8
      have hd1 := t_a1 (x := d) (by omega)
      have id1 : inb (d + 1) 101 := by constructor <;> omega
      have fin : Tt (g_X0_choosePairs_j78 F o o' x y a c d w) (PS (fun s' : Int32 => (0 ≤ s'.toInt ∧ s'.toInt ≤ 100) ∧ (100 - s'.toInt).toNat < (100 - d.toInt).toNat) (fun s : Int32 => 0 ≤ s.toInt ∧ s.toInt ≤ 100)) := tt_l (by omega)
      exact tt_ob z_isLike (fun _ _ => tt_if (fun _ => fin) (fun _ => tt_ck ic1 (ty_row hG h0 ic1 (fun r hr => tt_ck id1 (tt_ck ic (ty_row hG h0 ic (fun r2 hr2 => tt_ck ia (tt_if (fun _ => tt_r hd) (fun _ => fin)))))))))
    · omega
    · exact h1
    · unfold g_X0_choosePairs_j84
      have fin : ∀ (a' : Int32) (w' : rg_U), wyX u0 w' → (0 ≤ a'.toInt ∧ a'.toInt ≤ 100) → 0 ≤ (rF w' 8 3).toInt → Tt (g_X0_choosePairs_j129 F o o' x y a' c w') (PS (fun s' : Int32 × Int32 × rg_U => (wyX u0 s'.2.2 ∧ (0 ≤ s'.1.toInt ∧ s'.1.toInt ≤ 100) ∧ (0 ≤ s'.2.1.toInt ∧ s'.2.1.toInt ≤ 100) ∧ 0 ≤ (rF s'.2.2 8 3).toInt) ∧ (100 - s'.2.1.toInt).toNat < (100 - c.toInt).toNat) (fun w : rg_U => wyX u0 w)) := fun a' w' hw' ha' hp' => tt_l ⟨⟨hw', ha', by dsimp only; omega, hp'⟩, by dsimp only; omega⟩
      refine tt_if (fun _ => fin _ _ h0 h1 h5) (fun h9 => ?_)
      rw [Int32.le_iff_toInt_le] at h9
      have hr1 := t_a1 (x := r) (by omega)
      refine tt_ck ip (tt_lt (tt_ck ip (tt_lt (tt_lt (fin _ _ (wy_803 (wy_A (wy_A h0 (by decide)) (by decide))) (by omega) ?_)))))
      show 0 ≤ (rF w 8 3 + 1).toInt
      omega
  · dsimp only
    rw [t_0]
    omega
  · dsimp only
    exact ⟨wy_803 h, by rw [t_0]; omega, by rw [t_0]; omega, by show 0 ≤ (0 : Int32).toInt; decide⟩
theorem y_lay (hG : wkG u0) (h : wyX u0 u) (ho : isRn o) (ho' : isRn o') (hF : 10000 < F) : Tt (g_X0_lay F (o + 24) (o' + 24) u) (fun w => wyX u0 w) := by
  have h1 := t_imin (x := rF u (o + 24) 3) (y := 100) (N := 100) (b_C (wy_k h) ho).1 (by decide) (by decide)
  have h2 := t_imin (x := rF u (o' + 24) 3) (y := 100) (N := 100) (b_C (wy_k h) ho').1 (by decide) (by decide)
  unfold g_X0_lay
  exact tt_ob (y_countPairs hG h h1 h2 hF) (fun _ h3 => tt_b (y_choosePairs hG h3 h1 h2 hF) (fun _ q => q))
theorem y_goThrough {p : Nat} (h : wyX u0 u) (ho : isRn o) (hp : 8 ≤ p ∧ p < 116) (hx : 0 ≤ x.toInt ∧ x.toInt ≤ 3800) (hF : 10000 < F) : Tt (g_X0_goThrough F (o + 12) x y p 40 u) (fun z => wyX u0 z.2 ∧ 0 ≤ z.1.toInt ∧ z.1.toInt ≤ 3800) := by
  have eN : (Int32.ofNat 40).toInt = 40 := rfl
  unfold g_X0_goThrough
  refine tt_b (tt_lp (I := fun s => wyX u0 s.2 ∧ 0 ≤ s.1.toInt ∧ s.1.toInt ≤ 3800) (m := fun s => (3800 - s.1.toInt).toNat) (P := fun z => wyX u0 z.2 ∧ 0 ≤ z.1.toInt ∧ z.1.toInt ≤ 3800) ?_ F _ ?_ ?_) (fun _ q => q)
  · rintro ⟨c, w⟩ ⟨h0, h1, h2⟩
    dsimp only at h0 h1 h2 ⊢
    have hb := b_P (wy_k h0) ho
    unfold g_X0_goThrough_l3
    refine tt_if (fun _ => tt_r ⟨h0, h1, h2⟩) (fun h3 => ?_)
    rw [Int32.le_iff_toInt_le] at h3
    have := t_a1 (x := c) (by omega)
    have fin : ∀ w', wyX u0 w' → Tt (g_X0_goThrough_j48 F (o + 12) p 40 y c w') (PS (fun s' : Int32 × rg_U => (wyX u0 s'.2 ∧ 0 ≤ s'.1.toInt ∧ s'.1.toInt ≤ 3800) ∧ (3800 - s'.1.toInt).toNat < (3800 - c.toInt).toNat) (fun z : Int32 × rg_U => wyX u0 z.2 ∧ 0 ≤ z.1.toInt ∧ z.1.toInt ≤ 3800)) := fun w' hw' => tt_l ⟨⟨hw', by dsimp only; omega⟩, by dsimp only; omega⟩
    refine tt_ob z_timeOf6 (fun _ _ => tt_if (fun _ => tt_r ⟨h0, h1, h2⟩) (fun _ => tt_ob z_placeOf (fun r _ => tt_if (fun _ => fin _ h0) (fun h4 => tt_if (fun _ => fin _ h0) (fun h5 => tt_ck ?_ (tt_lt (fin _ (wy_A h0 hp))))))))
    rw [Int32.lt_iff_toInt_lt, t_0] at h4
    rw [Int32.le_iff_toInt_le, eN] at h5
    constructor <;> omega
  · dsimp only
    omega
  · exact ⟨h, hx⟩
theorem y_firstUnlike (h : wyX u0 u) (ho : isRn o) (ho' : isRn o') (hF : 10000 < F) : Tt (g_X0_firstUnlike F o o' u) (fun z => wyX u0 z.2) := by
  unfold g_X0_firstUnlike
  refine tt_ob (Q := fun w => wyX u0 w) ⟨_, g_fill_eq (by decide) (by omega), wy_up h (by decide)⟩ (fun w1 h1 => tt_ob (Q := fun w => wyX u0 w) ⟨_, g_fill_eq (by decide) (by omega), wy_up h1 (by decide)⟩ (fun w2 h2 => ?_))
  have hm := t_imin (x := rF w2 o 9) (y := rF w2 o' 9) (N := 3000) (b_9 (wy_k h2) ho).1 (b_9 (wy_k h2) ho').1 (b_9 (wy_k h2) ho').2
  refine tt_ob (tt_lp (I := fun s => wyX u0 s.2.2.2 ∧ (0 ≤ s.1.toInt ∧ s.1.toInt ≤ 3800) ∧ (0 ≤ s.2.1.toInt ∧ s.2.1.toInt ≤ 3800) ∧ (0 ≤ s.2.2.1.toInt ∧ s.2.2.1.toInt ≤ 3001)) (m := fun s => (3001 - s.2.2.1.toInt).toNat) (P := fun r => (∀ a, r = Sum.inl a → wyX u0 a.2) ∧ ∀ a, r = Sum.inr a → wyX u0 a) ?_ F _ ?_ ?_) (fun r hr => tt_os (fun a ha => tt_s (hr.1 a ha)) (fun a ha => tt_s (hr.2 a ha)))
  · rintro ⟨a, c, t, w⟩ ⟨h0, ha, hc, ht⟩
    dsimp only at h0 ha hc ht ⊢
    unfold g_X0_firstUnlike_l37
    refine tt_if (fun _ => tt_r ⟨fun a q => (by cases q), fun a q => (by cases q; exact h0)⟩) (fun h3 => ?_)
    rw [Int32.lt_iff_toInt_lt] at h3
    have h4 := t_a1 (x := t) (by omega)
    refine tt_ob (y_goThrough h0 ho (by decide) ha hF) (fun r1 hr1 => tt_ob (y_goThrough hr1.1 ho' (by decide) hc hF) (fun r2 hr2 => ?_))
    have ex : Tt (some (Sum.inr (Sum.inl (t, r2.2))) : Option ((Int32 × Int32 × Int32 × rg_U) ⊕ ((Int32 × rg_U) ⊕ rg_U))) (PS (fun s' : Int32 × Int32 × Int32 × rg_U => (wyX u0 s'.2.2.2 ∧ (0 ≤ s'.1.toInt ∧ s'.1.toInt ≤ 3800) ∧ (0 ≤ s'.2.1.toInt ∧ s'.2.1.toInt ≤ 3800) ∧ (0 ≤ s'.2.2.1.toInt ∧ s'.2.2.1.toInt ≤ 3001)) ∧ (3001 - s'.2.2.1.toInt).toNat < (3001 - t.toInt).toNat) (fun r : (Int32 × rg_U) ⊕ rg_U => (∀ a, r = Sum.inl a → wyX u0 a.2) ∧ ∀ a, r = Sum.inr a → wyX u0 a)) := tt_r ⟨fun a q => (by cases q; exact hr2.1), fun a q => (by cases q)⟩
    exact tt_ob z_counterAt (fun _ _ => tt_ob z_counterAt (fun _ _ => tt_if (fun _ => tt_ob (z_stackLike hF) (fun _ _ => tt_if (fun _ => ex) (fun _ => tt_ob (k_areUnlike ha hr1.2 hF) (fun _ _ => tt_if (fun _ => tt_ob (k_areUnlike hc hr2.2 hF) (fun _ _ => tt_if (fun _ => tt_l ⟨⟨hr2.1, hr1.2, hr2.2, by dsimp only; omega⟩, by dsimp only; omega⟩) (fun _ => ex))) (fun _ => ex))))) (fun _ => ex)))
  · dsimp only
    rw [t_0]
    omega
  · dsimp only
    rw [t_0]
    exact ⟨h2, by omega, by omega, by omega⟩
theorem y_count (h : wyX u0 u) (ho : isRn o) : Tt (g_X9_count F o x u) (fun w => wyX u0 w) := by
  have hg := rn_ge ho
  unfold g_X9_count
  exact tt_lt (tt_lt (tt_s (wy_13 (wy_12 h ho))))
theorem y_replay (h : wyX u0 u) (ho : isRn o) (hF : 10000 < F) : Tt (g_X9_replay F o x u) (fun w => wyX u0 w) := by
  unfold g_X9_replay g_X9_replay_j24
  exact tt_if (fun _ => tt_b (y_count h ho) (fun _ q => q)) (fun _ => tt_ob (z_latestBy (b_H (wy_k h) ho) hF) (fun _ _ => tt_b (y_count h ho) (fun _ q => q)))
theorem y_lastChange (h : wyX u0 u) (ho : isRn o) (hx : inb x 3001) (hF : 10000 < F) : Tt (g_X9_lastChange F o x y u) (fun z => wyX u0 z.2) := by
  obtain ⟨X, hX, eX⟩ := t_nI (x := x) (N := 3000) hx.1 (by have := hx.2; omega)
  unfold g_X9_lastChange
  refine tt_ob (y_replay h ho hF) (fun w1 h1 => tt_ob (z_putBy (b_P (wy_k h1) ho) hF) (fun _ _ => tt_ob z_changesOf (fun _ _ => tt_if (fun _ => tt_s h1) (fun _ => tt_ob (z_changedSince (b_P (wy_k h1) ho) hF) (fun r _ => tt_b (tt_lp (I := fun s => wyX u0 s.2.2 ∧ ∃ a b : Nat, s.1 = nI a ∧ s.2.1 = nI b ∧ a ≤ 3001 ∧ b ≤ 3000) (m := fun s => (s.2.1.toInt - s.1.toInt).toNat) (P := fun z => wyX u0 z.2) ?_ F _ ?_ ?_) (fun _ q => q))))))
  · rintro ⟨p, q, w⟩ ⟨h0, a, b, rfl, rfl, ha, hb⟩
    dsimp only at h0 ⊢
    unfold g_X9_lastChange_l48 g_X9_lastChange_j91
    refine tt_if (fun _ => tt_r h0) (fun h3 => ?_)
    have hab : a < b := by
      rcases Nat.lt_or_ge a b with z | z
      · exact z
      · exact absurd (nI_le z (by omega)) h3
    have em : (nI a + nI b) / 2 = nI ((a + b) / 2) := by rw [nI_add]; exact pk_div (a := a + b) (d := 2) (by omega) (by omega) (by omega)
    rw [em]
    have ta := nI_toInt (n := a) (by omega)
    have tb := nI_toInt (n := b) (by omega)
    have tm := nI_toInt (n := (a + b) / 2) (by omega)
    have tm1 := nI_toInt (n := (a + b) / 2 + 1) (by omega)
    refine tt_ob (y_replay h0 ho hF) (fun w' hw' => tt_if (fun _ => tt_l ⟨⟨hw', (a + b) / 2 + 1, b, nI_1 _, rfl, by omega, hb⟩, ?_⟩) (fun _ => tt_l ⟨⟨hw', a, (a + b) / 2, rfl, rfl, ha, by omega⟩, ?_⟩))
    · dsimp only
      rw [nI_1, tm1, tb, ta]
      omega
    · dsimp only
      rw [tm, tb, ta]
      omega
  · dsimp only
    rw [t_0, eX, nI_toInt (by omega)]
    omega
  · exact ⟨h1, 0, X, rfl, eX, by omega, hX⟩
theorem wy_at (h : wyX u0 u) (hG : wkG u0) (hF : 10000 < F) : Tt (g_X9_at F x y z u) (fun z => wyX u0 z.2) := by
  unfold g_X9_at
  have h1 : wyX u0 (sF u 0 13 0) := wy_13 h
  refine tt_lt (tt_num (wx_G hG (wy_k h1)) (tt_s h1) (fun o ho => tt_ob z_hasT (fun r hr => tt_if (fun _ => tt_s h1) (fun q => tt_if (fun _ => tt_s h1) (fun _ => tt_if (fun _ => tt_s h1) (fun _ => tt_if (fun _ => tt_ob (y_replay h1 ho hF) (fun w hw => tt_ob (z_putBy (b_P (wy_k hw) ho) hF) (fun _ _ => tt_if (fun _ => tt_b z_sortOf (fun _ _ => hw)) (fun _ => tt_if (fun _ => tt_b z_numberOf (fun _ _ => hw)) (fun _ => tt_b z_changesOf (fun _ _ => hw)))))) (fun _ => tt_s h1)))))))
theorem wy_state (h : wyX u0 u) (hG : wkG u0) (hF : 10000 < F) : Tt (g_X9_state F x y u) (fun z => wyX u0 z.2) := by
  unfold g_X9_state
  have h1 : wyX u0 (sF u 0 13 0) := wy_13 h
  exact tt_lt (tt_num (wx_G hG (wy_k h1)) (tt_s h1) (fun o ho => tt_ob z_hasT (fun r hr => tt_if (fun _ => tt_s h1) (fun q => tt_if (fun _ => tt_s h1) (fun _ => tt_ob (y_replay h1 ho hF) (fun w hw => tt_if (fun _ => tt_b z_counterAt (fun _ _ => hw)) (fun _ => tt_if (fun _ => tt_b (z_stackSize hF) (fun _ _ => hw)) (fun _ => tt_if (fun _ => tt_b z_outsAt (fun _ _ => hw)) (fun _ => tt_if (fun _ => tt_b z_checkAt (fun _ _ => hw)) (fun _ => tt_if (fun _ => tt_ob z_counterAt (fun _ _ => tt_b z_kindAt (fun _ _ => hw))) (fun _ => tt_b (z_stackedAt hF) (fun _ _ => hw))))))))))))
theorem wy_last (h : wyX u0 u) (hG : wkG u0) (hF : 10000 < F) : Tt (g_X9_last F x y u) (fun z => wyX u0 z.2) := by
  unfold g_X9_last
  have h1 : wyX u0 (sF u 0 13 0) := wy_13 h
  exact tt_lt (tt_num (wx_G hG (wy_k h1)) (tt_s h1) (fun o ho => tt_ob z_hasT (fun r hr => tt_if (fun _ => tt_s h1) (fun q => tt_if (fun _ => tt_s h1) (fun _ => tt_b (y_lastChange h1 ho (hr q) hF) (fun _ q => q))))))
theorem wy_when (h : wyX u0 u) (hG : wkG u0) (hF : 10000 < F) : Tt (g_X9_when F x y z v u) (fun z => wyX u0 z.2) := by
  unfold g_X9_when
  have h1 : wyX u0 (sF u 0 13 0) := wy_13 h
  exact tt_lt (tt_num (wx_G hG (wy_k h1)) (tt_s h1) (fun o ho => tt_ob z_hasT (fun r hr => tt_if (fun _ => tt_s h1) (fun q => tt_if (fun _ => tt_s h1) (fun _ => tt_if (fun _ => tt_s h1) (fun _ => tt_ob (z_hadBy (b_P (wy_k h1) ho) hF) (fun _ _ => tt_ob (z_stepsToFind (b_H (wy_k h1) ho) hF) (fun _ _ => tt_b (y_count h1 ho) (fun _ q => q)))))))))
theorem wy_changed (h : wyX u0 u) (hG : wkG u0) (hF : 10000 < F) : Tt (g_X9_changed F x y u) (fun z => wyX u0 z.2) := by
  unfold g_X9_changed
  have h1 : wyX u0 (sF u 0 13 0) := wy_13 h
  have hp := t_pl (y := y)
  refine tt_lt (tt_num (wx_G hG (wy_k h1)) (tt_s h1) (fun o ho => tt_if (fun _ => tt_s h1) (fun _ => tt_if (fun _ => tt_s h1) (fun _ => tt_if (fun _ => tt_s h1) (fun _ => tt_ob (y_replay h1 ho hF) (fun w1 h2 => tt_ob (y_replay h2 ho hF) (fun w2 h3 => tt_b (tt_lp (I := fun s => 0 ≤ s.2.toInt ∧ s.2.toInt ≤ 32) (m := fun s => (32 - s.2.toInt).toNat) (P := fun _ => True) ?_ F _ ?_ ?_) (fun _ _ => h3))))))))
  · rintro ⟨a, c⟩ ⟨h4, h5⟩
    dsimp only at h4 h5 ⊢
    unfold g_X9_changed_l60 g_X9_changed_j134
    refine tt_if (fun _ => tt_r trivial) (fun h6 => ?_)
    rw [Int32.le_iff_toInt_le] at h6
    have := t_a1 (x := c) (by omega)
    exact tt_ob (z_putBy (b_P (wy_k h3) ho) hF) (fun _ _ => tt_ob z_changesOf (fun _ _ => tt_ob (z_putBy (b_P (wy_k h3) ho) hF) (fun _ _ => tt_ob z_changesOf (fun _ _ => tt_if (fun _ => tt_l (by dsimp only; omega)) (fun _ => tt_l (by dsimp only; omega))))))
  · dsimp only
    rw [t_0]
    omega
  · dsimp only
    rw [t_0]
    omega
theorem wy_watched (h : wyX u0 u) (hG : wkG u0) (hF : 10000 < F) : Tt (g_X9_watched F x u) (fun z => wyX u0 z.2) := by
  unfold g_X9_watched
  have h1 : wyX u0 (sF u 0 13 0) := wy_13 h
  refine tt_lt (tt_num (wx_G hG (wy_k h1)) (tt_s h1) (fun o ho => tt_if (fun _ => tt_s h1) (fun h2 => tt_if (fun h3 => tt_b (tt_lp (I := fun s => wyX u0 s.2.2 ∧ 0 ≤ s.2.1.toInt ∧ s.2.1.toInt ≤ 40) (m := fun s => (40 - s.2.1.toInt).toNat) (P := fun z => wyX u0 z.2) ?_ F _ ?_ ?_) (fun _ q => q)) (fun _ => tt_s h1))))
  · rintro ⟨a, c, w⟩ ⟨h0, h4, h5⟩
    dsimp only at h0 h4 h5 ⊢
    unfold g_X9_watched_l39 g_X9_watched_j70
    refine tt_if (fun _ => tt_r h0) (fun h6 => ?_)
    have hb := b_9 (wy_k h1) ho
    rw [Int32.le_iff_toInt_le, t_40] at h6
    rw [Int32.lt_iff_toInt_lt, t_1] at h2
    rw [Int32.le_iff_toInt_le] at h3
    have := t_a1 (x := c) (by omega)
    have ts := t_s1 (x := x) (by omega)
    have hi : inb (x - 1) 3001 := by constructor <;> omega
    exact tt_ob z_isWatched (fun _ _ => tt_if (fun _ => tt_l ⟨⟨h0, by dsimp only; omega⟩, by dsimp only; omega⟩) (fun _ => tt_ob (y_lastChange h0 ho hi hF) (fun _ h7 => tt_l ⟨⟨h7, by dsimp only; omega⟩, by dsimp only; omega⟩)))
  · dsimp only
    rw [t_0]
    omega
  · dsimp only
    rw [t_0]
    exact ⟨h1, by omega⟩
theorem wy_rests (h : wyX u0 u) (hG : wkG u0) (hF : 10000 < F) : Tt (g_X9_rests F x y z u) (fun z => wyX u0 z.2) := by
  unfold g_X9_rests
  exact tt_num (wx_G hG (wy_k h)) (tt_s h) (fun o ho => tt_ob z_hasT (fun r hr => tt_if (fun _ => tt_s h) (fun q => tt_if (fun _ => tt_s h) (fun _ => tt_ob (z_putBy (b_P (wy_k h) ho) hF) (fun _ _ => tt_ob (y_markBelow h ho hF) (fun _ h1 => tt_b (z_markedStep (by decide) hF) (fun _ _ => h1)))))))
theorem wy_hangs (h : wyX u0 u) (hG : wkG u0) (hF : 10000 < F) : Tt (g_X9_hangs F x y z u) (fun z => wyX u0 z.2) := by
  unfold g_X9_hangs
  have hp := t_pl (y := z)
  refine tt_num (wx_G hG (wy_k h)) (tt_s h) (fun o ho => tt_ob z_has3 (fun r hr => tt_if (fun _ => tt_s h) (fun q => tt_ob z_hasT (fun r hr => tt_if (fun _ => tt_s h) (fun q => tt_if (fun _ => tt_s h) (fun _ => tt_ob (y_markAbove h hF) (fun w1 h1 => tt_b (tt_lp (I := fun s => 0 ≤ s.2.toInt ∧ s.2.toInt ≤ 32) (m := fun s => (32 - s.2.toInt).toNat) (P := fun _ => True) ?_ F _ ?_ ?_) (fun _ _ => h1))))))))
  · rintro ⟨a, c⟩ ⟨h4, h5⟩
    dsimp only at h4 h5 ⊢
    unfold g_X9_hangs_l65 g_X9_hangs_j109
    refine tt_if (fun _ => tt_r trivial) (fun h6 => ?_)
    rw [Int32.le_iff_toInt_le] at h6
    have := t_a1 (x := c) (by omega)
    exact tt_ob (z_putBy (b_P (wy_k h1) ho) hF) (fun _ _ => tt_ob (z_isMarked (by decide)) (fun _ _ => tt_if (fun _ => tt_l (by dsimp only; omega)) (fun _ => tt_l (by dsimp only; omega))))
  · dsimp only
    rw [t_0]
    omega
  · dsimp only
    rw [t_0]
    omega
theorem wy_align (h : wyX u0 u) (hG : wkG u0) (hF : 10000 < F) : Tt (g_X9_align F x y u) (fun z => wyX u0 z.2) := by
  unfold g_X9_align
  exact tt_num2 (wx_G hG (wy_k h)) (tt_s h) (fun o o' ho ho' => tt_b (y_lay hG h ho ho' hF) (fun _ q => q))
theorem wy_parts (h : wyX u0 u) (hG : wkG u0) (hF : 10000 < F) : Tt (g_X9_parts F x y u) (fun z => wyX u0 z.2) := by
  unfold g_X9_parts
  exact tt_num2 (wx_G hG (wy_k h)) (tt_s h) (fun o o' ho ho' => tt_b (y_firstUnlike h ho ho' hF) (fun _ q => q))
theorem wy_pair (h : wyX u0 u) (hG : wkG u0) (hF : 10000 < F) : Tt (g_X9_pair F x y z v u) (fun z => wyX u0 z.2) := by
  unfold g_X9_pair
  have h1 : wyX u0 (sF u 0 13 0) := wy_13 h
  exact tt_lt (tt_num2 (wx_G hG (wy_k h1)) (tt_s h1) (fun o o' ho ho' => tt_if (fun _ => tt_s h1) (fun _ => tt_if (fun _ => tt_ob (y_lay hG h1 ho ho' hF) (fun w h2 => tt_ob z_has0 (fun _ _ => tt_if (fun _ => tt_s h2) (fun _ => tt_if (fun _ => tt_b z_callOne (fun _ _ => h2)) (fun _ => tt_if (fun _ => tt_b z_callOther (fun _ _ => h2)) (fun _ => tt_ob z_callOne (fun _ _ => tt_ob z_read1 (fun _ _ => tt_ob z_callOther (fun _ _ => tt_ob z_read1 (fun _ _ => tt_ob (y_replay h2 ho hF) (fun _ h3 => tt_ob (y_replay h3 ho' hF) (fun _ h4 => tt_b (z_unlike (b_P (wy_k h4) ho) (b_P (wy_k h4) ho') hF) (fun _ _ => h4))))))))))))) (fun _ => tt_s h1))))
end WY
