/-! rows that can be, and that a step keeps them so -/
def okR (m : Row) : Prop := (∃ cn, cn ≤ 64 ∧ m 120 = nI cn) ∧ ∃ d, d ≤ 8 ∧ m 121 = nI d ∧ (∀ i, i < d → ∃ c, c ≤ 64 ∧ m (122 + i) = nI c) ∧ ∀ i, 134 ≤ i → m i = 0
theorem okR_hi {m m' : Row} (h : okR m) (he : ∀ i, 120 ≤ i → (i < 130 ∨ 134 ≤ i) → m' i = m i) : okR m' := by
  obtain ⟨⟨cn, h1, h2⟩, d, h3, h4, h5, h6⟩ := h
  refine ⟨⟨cn, h1, by rw [he 120 (by omega) (by omega)]; exact h2⟩, d, h3, by rw [he 121 (by omega) (by omega)]; exact h4, fun i hi => ?_, fun i hi => by rw [he i (by omega) (by omega)]; exact h6 i hi⟩
  rw [he (122 + i) (by omega) (by omega)]
  exact h5 i hi
theorem okR_0 : okR zrow := ⟨⟨0, by omega, rfl⟩, 0, by omega, rfl, (fun i hi => by omega), fun i hi => rfl⟩
theorem mput_hi {m : Row} {p i : Nat} {s n : Int32} (hp : p < 40) (hi : 120 ≤ i) : mput m p s n i = m i := by
  unfold mput
  rw [pk_un (by omega), pk_un (by omega), pk_un (by omega)]
def okS (m : Row) (k : Nat) (en : Int32) (z : MSt) : Prop := okR z.1 ∧ z.1 133 = m 133 ∧ (z.2.2.1 = -1 ∨ ((k = 19 ∨ k = 20) ∧ z.2.2.1 = en))
theorem okS_giv {m : Row} {k p : Nat} {s n en : Int32} (h : okR m) (hp : p < 40) : okS m k en (mgiv m p s n) := ⟨okR_hi h (fun i h1 h2 => mput_hi hp h1), mput_hi hp (by omega), Or.inl rfl⟩
theorem okS_trp {m : Row} {k : Nat} {t en : Int32} (h : okR m) : okS m k en (mtrp m t) := ⟨okR_hi h (fun i h1 h2 => pk_un (by omega)), (show upd m 132 (10 + t) 133 = m 133 from pk_un (by decide)), Or.inl rfl⟩
theorem okR_cn {m : Row} {c : Nat} {x : Int32} (h : okR m) (hc : c ≤ 64) (hx : x = nI c) : okR (upd m 120 x) := by
  obtain ⟨-, d, h3, h4, h5, h6⟩ := h
  refine ⟨⟨c, hc, by rw [pk_us]; exact hx⟩, d, h3, by rw [pk_un (by decide)]; exact h4, fun i hi => ?_, fun i hi => by rw [pk_un (by omega)]; exact h6 i hi⟩
  rw [pk_un (by omega)]
  exact h5 i hi
theorem ipl_of {x : Int32} (h : ¬ g_X9_fits 2 x = 0) : ∃ p, p < 64 ∧ x = nI p := by
  rw [ft2] at h
  obtain ⟨p, hp, h1, h2⟩ := in_nat (v := x) h (by decide)
  have e1 : (63 : Int32).toInt = 63 := rfl
  exact ⟨p, by omega, hp⟩
theorem okS_reck {m : Row} {k a b c : Nat} {en : Int32} (h : okR m) (ha : a < 40) : okS m k en (mreck m k a b c) := by
  unfold mreck
  by_cases h1 : ¬ m b = 2 ∨ ¬ m c = 2
  · rw [if_pos h1]; exact okS_trp h
  rw [if_neg h1]
  by_cases h2 : (k = 7 ∨ k = 8) ∧ m (40 + c) = 0
  · rw [if_pos h2]; exact okS_trp h
  rw [if_neg h2]
  by_cases h3 : k = 9
  · rw [if_pos h3]; exact okS_giv h ha
  · rw [if_neg h3]; exact okS_giv h ha
theorem okS_cel {m : Row} {k y : Nat} {en : Int32} {f : Nat → MSt} (h : okR m) (hf : ∀ p, p < 40 → okS m k en (f p)) : okS m k en (mcel m y f) := by
  unfold mcel
  by_cases h1 : m y = 2
  · rw [if_pos h1]
    by_cases h2 : 0 ≤ m (40 + y) ∧ m (40 + y) ≤ 31
    · rw [if_pos h2]
      obtain ⟨q, hq, q1, q2⟩ := in_nat (v := m (40 + y)) (lo := 0) (hi := 31) (fun z => (in_0.mp z) h2) (by decide)
      have e1 : (31 : Int32).toInt = 31 := rfl
      apply hf
      rw [hq, tnn (by omega)]
      omega
    · rw [if_neg h2]; exact okS_trp h
  · rw [if_neg h1]; exact okS_trp h
theorem okS_do {m : Row} {k : Nat} {a b c num en : Int32} (hk : k < 23) (hv : ¬ g_X10_isFine (nI k) a b c = 0) (h : okR m) : okS m k en (mdo m k a b c num en) := by
  obtain ⟨fa, fb, fc⟩ := fine_abc hk hv
  match k, hk, fa, fb, fc with
  | 0, _, fa, fb, fc =>
    exact ⟨okR_hi h (fun i h1 h2 => pk_un (by omega)), (show upd m 132 2 133 = m 133 from pk_un (by decide)), Or.inl rfl⟩
  | 1, _, fa, fb, fc =>
    obtain ⟨p, hp, rfl⟩ := reg_of (x := a) fa
    exact okS_giv h (by rw [tnn (by omega)]; omega)
  | 2, _, fa, fb, fc =>
    obtain ⟨p, hp, rfl⟩ := reg_of (x := a) fa
    exact okS_giv h (by rw [tnn (by omega)]; omega)
  | 3, _, fa, fb, fc =>
    obtain ⟨p, hp, rfl⟩ := reg_of (x := a) fa
    exact okS_giv h (by rw [tnn (by omega)]; omega)
  | 4, _, fa, fb, fc =>
    obtain ⟨p, hp, rfl⟩ := reg_of (x := a) fa
    exact okS_reck h (by rw [tnn (by omega)]; omega)
  | 5, _, fa, fb, fc =>
    obtain ⟨p, hp, rfl⟩ := reg_of (x := a) fa
    exact okS_reck h (by rw [tnn (by omega)]; omega)
  | 6, _, fa, fb, fc =>
    obtain ⟨p, hp, rfl⟩ := reg_of (x := a) fa
    exact okS_reck h (by rw [tnn (by omega)]; omega)
  | 7, _, fa, fb, fc =>
    obtain ⟨p, hp, rfl⟩ := reg_of (x := a) fa
    exact okS_reck h (by rw [tnn (by omega)]; omega)
  | 8, _, fa, fb, fc =>
    obtain ⟨p, hp, rfl⟩ := reg_of (x := a) fa
    exact okS_reck h (by rw [tnn (by omega)]; omega)
  | 9, _, fa, fb, fc =>
    obtain ⟨p, hp, rfl⟩ := reg_of (x := a) fa
    exact okS_reck h (by rw [tnn (by omega)]; omega)
  | 10, _, fa, fb, fc =>
    obtain ⟨p, hp, rfl⟩ := reg_of (x := a) fa
    exact okS_giv h (by rw [tnn (by omega)]; omega)
  | 11, _, fa, fb, fc =>
    obtain ⟨p, hp, rfl⟩ := reg_of (x := a) fa
    show okS m 11 en (if m (tn b) = 1 then mgiv m (tn (nI p)) 1 (1 - m (40 + tn b)) else mtrp m 1)
    by_cases h1 : m (tn b) = 1
    · rw [if_pos h1]; exact okS_giv h (by rw [tnn (by omega)]; omega)
    · rw [if_neg h1]; exact okS_trp h
  | 12, _, fa, fb, fc =>
    obtain ⟨p, hp, rfl⟩ := reg_of (x := a) fa
    show okS m 12 en (if m (tn b) = 1 ∧ m (tn c) = 1 then mgiv m (tn (nI p)) 1 (m (40 + tn b) &&& m (40 + tn c)) else mtrp m 1)
    by_cases h1 : m (tn b) = 1 ∧ m (tn c) = 1
    · rw [if_pos h1]; exact okS_giv h (by rw [tnn (by omega)]; omega)
    · rw [if_neg h1]; exact okS_trp h
  | 13, _, fa, fb, fc =>
    obtain ⟨p, hp, rfl⟩ := reg_of (x := a) fa
    exact okS_cel h (fun q hq => okS_giv h (by rw [tnn (by omega)]; omega))
  | 14, _, fa, fb, fc =>
    exact okS_cel h (fun q hq => okS_giv h hq)
  | 15, _, fa, fb, fc =>
    obtain ⟨p, hp, rfl⟩ := ipl_of (x := a) fa
    exact ⟨okR_cn h (by omega) rfl, (show upd m 120 (nI p) 133 = m 133 from pk_un (by decide)), Or.inl rfl⟩
  | 16, _, fa, fb, fc =>
    obtain ⟨p, hp, rfl⟩ := ipl_of (x := b) fb
    show okS m 16 en (if m (tn a) = 1 then ((if m (40 + tn a) = 1 then upd m 120 (nI p) else m), 0, -1, -1) else mtrp m 1)
    by_cases h1 : m (tn a) = 1
    · rw [if_pos h1]
      by_cases h2 : m (40 + tn a) = 1
      · rw [if_pos h2]; exact ⟨okR_cn h (by omega) rfl, (show upd m 120 (nI p) 133 = m 133 from pk_un (by decide)), Or.inl rfl⟩
      · rw [if_neg h2]; exact ⟨h, rfl, Or.inl rfl⟩
    · rw [if_neg h1]; exact okS_trp h
  | 17, _, fa, fb, fc =>
    obtain ⟨p, hp, rfl⟩ := ipl_of (x := a) fa
    show okS m 17 en (if m 121 = 8 then mtrp m 4 else (upd (upd (upd m (122 + tn (m 121)) (m 120)) 121 (m 121 + 1)) 120 (nI p), 0, -1, -1))
    by_cases h1 : m 121 = 8
    · rw [if_pos h1]; exact okS_trp h
    · rw [if_neg h1]
      obtain ⟨⟨cn, g1, g2⟩, d, h3, h4, h5, h6⟩ := h
      have hd7 : d < 8 := by
        rcases Nat.lt_or_ge d 8 with q | q
        · exact q
        · exact absurd (by rw [h4, show d = 8 by omega]; rfl) h1
      rw [h4, tnn (by omega), nI_1]
      unfold okS okR
      dsimp only
      refine ⟨⟨⟨p, by omega, pk_us⟩, d + 1, by omega, by rw [pk_un (by decide), pk_us], fun i hi => ?_, fun i hi => by rw [pk_un (by omega), pk_un (by omega), pk_un (by omega)]; exact h6 i hi⟩, ?_, Or.inl rfl⟩
      · rw [pk_un (by omega), pk_un (by omega)]
        by_cases q : i = d
        · subst q; rw [pk_us]; exact ⟨cn, g1, g2⟩
        · rw [pk_un (by omega)]; exact h5 i (by omega)
      · show upd _ 120 _ 133 = _
        rw [pk_un (by decide), pk_un (by decide), pk_un (by omega)]
  | 18, _, fa, fb, fc =>
    show okS m 18 en (if m 121 = 0 then (upd m 132 2, 0, -1, -1) else (upd (upd m 121 (m 121 - 1)) 120 (m (122 + tn (m 121 - 1))), 0, -1, -1))
    by_cases h1 : m 121 = 0
    · rw [if_pos h1]; exact ⟨okR_hi h (fun i h1 h2 => pk_un (by omega)), (show upd m 132 2 133 = m 133 from pk_un (by decide)), Or.inl rfl⟩
    · rw [if_neg h1]
      obtain ⟨⟨cn, g1, g2⟩, d, h3, h4, h5, h6⟩ := h
      have hd0 : 0 < d := Nat.pos_of_ne_zero fun q => h1 (by rw [h4, q]; rfl)
      rw [h4, show nI d - 1 = nI (d - 1) from nI_sub (a := d) (b := 1) hd0, tnn (by omega)]
      obtain ⟨cc, k1, k2⟩ := h5 (d - 1) (by omega)
      unfold okS okR
      dsimp only
      refine ⟨⟨⟨cc, k1, by rw [pk_us]; exact k2⟩, d - 1, by omega, by rw [pk_un (by decide), pk_us], fun i hi => ?_, fun i hi => by rw [pk_un (by omega), pk_un (by omega)]; exact h6 i hi⟩, ?_, Or.inl rfl⟩
      · rw [pk_un (by omega), pk_un (by omega)]; exact h5 i (by omega)
      · show upd _ 120 _ 133 = _
        rw [pk_un (by decide), pk_un (by decide)]
  | 19, _, fa, fb, fc =>
    obtain ⟨p, hp, rfl⟩ := reg_of (x := a) fa
    refine ⟨okR_hi h (fun i h1 h2 => mput_hi (by rw [tnn (by omega)]; omega) h1), mput_hi (by rw [tnn (by omega)]; omega) (by omega), Or.inr ⟨by omega, rfl⟩⟩
  | 20, _, fa, fb, fc =>
    obtain ⟨p, hp, rfl⟩ := reg_of (x := a) fa
    refine ⟨okR_hi h (fun i h1 h2 => mput_hi (by rw [tnn (by omega)]; omega) h1), mput_hi (by rw [tnn (by omega)]; omega) (by omega), Or.inr ⟨by omega, rfl⟩⟩
  | 21, _, fa, fb, fc =>
    exact ⟨okR_hi h (fun i h1 h2 => by show upd (upd m 130 (m 130 + 1)) 131 (31 * m 131 + 3 * m (40 + tn a) + m (tn a)) i = m i; rw [pk_un (by omega), pk_un (by omega)]), by show upd (upd m 130 (m 130 + 1)) 131 (31 * m 131 + 3 * m (40 + tn a) + m (tn a)) 133 = m 133; rw [pk_un (by decide), pk_un (by decide)], Or.inl rfl⟩
  | 22, _, fa, fb, fc =>
    obtain ⟨p, hp, rfl⟩ := reg_of (x := a) fa
    exact okS_giv h (by rw [tnn (by omega)]; omega)
  | k + 23, hk, _, _, _ => omega
theorem kind_in {P : Prg} {cn : Nat} (hc : cn ≤ 64) (h : ¬ kindOf P (nI cn) = -1) : cn < 64 ∧ kindOf P (nI cn) = P.1 cn := by
  have hc64 : cn < 64 := by
    rcases Nat.lt_or_ge cn 64 with q | q
    · exact q
    · exfalso
      apply h
      have : cn = 64 := by omega
      subst this
      rfl
  refine ⟨hc64, ?_⟩
  unfold kindOf
  rw [if_pos (show nI cn < (64 : Int32) from nI_lt (a := cn) (b := 64) hc64 (by decide)), tnn (by omega)]
theorem cn_next {cn : Nat} (h : cn ≤ 64) : imin 64 (nI cn + 1) = nI (min 64 (cn + 1)) := by
  rw [nI_1]
  show (if nI (cn + 1) < nI 64 then nI (cn + 1) else nI 64) = _
  by_cases q : cn + 1 < 64
  · rw [if_pos (nI_lt q (by decide)), show min 64 (cn + 1) = cn + 1 by omega]
  · rw [if_neg (nI_nlt (by omega) (by omega)), show min 64 (cn + 1) = 64 by omega]
theorem ok_step {P : Prg} {m : Row} {num en : Int32} (hP : okP P) (h : okR m) : okR (mstep P m num en).1 ∧ (mstep P m num en).1 133 = m 133 + 1 ∧ ((mstep P m num en).2.2.1 = -1 ∨ ((kindOf P (m 120) = 19 ∨ kindOf P (m 120) = 20) ∧ (mstep P m num en).2.2.1 = en)) := by
  obtain ⟨cn, hc1, hc2⟩ := h.1
  have h0 : okR (upd m 120 (imin 64 (m 120 + 1))) := okR_cn h (c := min 64 (cn + 1)) (by omega) (by rw [hc2, cn_next hc1])
  have e3 : (upd m 120 (imin 64 (m 120 + 1))) 133 = m 133 := pk_un (by decide)
  have fin : ∀ (k : Nat) (z : MSt), okS (upd m 120 (imin 64 (m 120 + 1))) k en z → okR (upd z.1 133 (z.1 133 + 1)) ∧ upd z.1 133 (z.1 133 + 1) 133 = m 133 + 1 := fun k z hz => ⟨okR_hi hz.1 (fun i h1 h2 => pk_un (by omega)), by rw [pk_us, hz.2.1, e3]⟩
  unfold mstep
  dsimp only
  by_cases hk : kindOf P (m 120) = -1
  · rw [if_pos hk]
    have := fin 0 _ (okS_trp (t := 5) h0)
    exact ⟨this.1, this.2, Or.inl rfl⟩
  · rw [if_neg hk]
    rw [hc2] at hk
    obtain ⟨hc64, ek⟩ := kind_in hc1 hk
    obtain ⟨k, hk23, ek2⟩ := fine_k (hP cn hc64) (by rw [← ek]; exact hk)
    have hv := hP cn hc64
    rw [ek2] at hv
    rw [hc2] at h0 fin
    rw [hc2, ek, ek2, tnn (by omega), tnn (by omega)]
    have hs := okS_do (num := num) (en := en) hk23 hv h0
    have := fin k _ hs
    refine ⟨this.1, this.2, ?_⟩
    rcases hs.2.2 with q | ⟨q1, q2⟩
    · exact Or.inl q
    · refine Or.inr ⟨?_, q2⟩
      rcases q1 with q | q
      · subst q; exact Or.inl rfl
      · subst q; exact Or.inr rfl
