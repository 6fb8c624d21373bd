/-! the place that a step puts at is a place -/
def okQ (z : MSt) : Prop := z.2.2.2 = -1 ∨ ∃ p, p < 40 ∧ z.2.2.2 = nI p
theorem okQ_giv {m : Row} {p : Nat} {s n : Int32} (hp : p < 40) : okQ (mgiv m p s n) := Or.inr ⟨p, hp, rfl⟩
theorem okQ_trp {m : Row} {t : Int32} : okQ (mtrp m t) := Or.inl rfl
theorem okQ_if {c : Prop} [Decidable c] {x y : MSt} (h1 : okQ x) (h2 : okQ y) : okQ (if c then x else y) := by
  by_cases h : c
  · rw [if_pos h]; exact h1
  · rw [if_neg h]; exact h2
theorem okQ_reck {m : Row} {k a b c : Nat} (ha : a < 40) : okQ (mreck m k a b c) := by
  unfold mreck
  exact okQ_if okQ_trp (okQ_if okQ_trp (okQ_if (okQ_giv ha) (okQ_giv ha)))
theorem okQ_cel {m : Row} {y : Nat} {f : Nat → MSt} (hf : ∀ p, p < 40 → okQ (f p)) : okQ (mcel m y f) := by
  unfold mcel
  by_cases h1 : m y = 2
  · rw [if_pos h1]
    by_cases h2 : 0 ≤ m (40 + y) ∧ m (40 + y) ≤ 31
    · rw [if_pos h2]
      obtain ⟨q, hq, q1, q2⟩ := in_nat (v := m (40 + y)) (lo := 0) (hi := 31) (fun z => (in_0.mp z) h2) (by decide)
      have e1 : (31 : Int32).toInt = 31 := rfl
      apply hf
      rw [hq, tnn (by omega)]
      omega
    · rw [if_neg h2]; exact okQ_trp
  · rw [if_neg h1]; exact okQ_trp
theorem okQ_do {m : Row} {k : Nat} {a b c num en : Int32} (hk : k < 23) (hv : ¬ g_X10_isFine (nI k) a b c = 0) : okQ (mdo m k a b c num en) := by
  obtain ⟨fa, fb, fc⟩ := fine_abc hk hv
  match k, hk, fa, fb, fc with
  | 0, _, fa, fb, fc => exact Or.inl rfl
  | 1, _, fa, fb, fc =>
    obtain ⟨p, hp, rfl⟩ := reg_of (x := a) fa
    exact okQ_giv (by rw [tnn (by omega)]; omega)
  | 2, _, fa, fb, fc =>
    obtain ⟨p, hp, rfl⟩ := reg_of (x := a) fa
    exact okQ_giv (by rw [tnn (by omega)]; omega)
  | 3, _, fa, fb, fc =>
    obtain ⟨p, hp, rfl⟩ := reg_of (x := a) fa
    exact okQ_giv (by rw [tnn (by omega)]; omega)
  | 4, _, fa, fb, fc =>
    obtain ⟨p, hp, rfl⟩ := reg_of (x := a) fa
    exact okQ_reck (by rw [tnn (by omega)]; omega)
  | 5, _, fa, fb, fc =>
    obtain ⟨p, hp, rfl⟩ := reg_of (x := a) fa
    exact okQ_reck (by rw [tnn (by omega)]; omega)
  | 6, _, fa, fb, fc =>
    obtain ⟨p, hp, rfl⟩ := reg_of (x := a) fa
    exact okQ_reck (by rw [tnn (by omega)]; omega)
  | 7, _, fa, fb, fc =>
    obtain ⟨p, hp, rfl⟩ := reg_of (x := a) fa
    exact okQ_reck (by rw [tnn (by omega)]; omega)
  | 8, _, fa, fb, fc =>
    obtain ⟨p, hp, rfl⟩ := reg_of (x := a) fa
    exact okQ_reck (by rw [tnn (by omega)]; omega)
  | 9, _, fa, fb, fc =>
    obtain ⟨p, hp, rfl⟩ := reg_of (x := a) fa
    exact okQ_reck (by rw [tnn (by omega)]; omega)
  | 10, _, fa, fb, fc =>
    obtain ⟨p, hp, rfl⟩ := reg_of (x := a) fa
    exact okQ_giv (by rw [tnn (by omega)]; omega)
  | 11, _, fa, fb, fc =>
    obtain ⟨p, hp, rfl⟩ := reg_of (x := a) fa
    show okQ (if m (tn b) = 1 then mgiv m (tn (nI p)) 1 (1 - m (40 + tn b)) else mtrp m 1)
    exact okQ_if (okQ_giv (by rw [tnn (by omega)]; omega)) okQ_trp
  | 12, _, fa, fb, fc =>
    obtain ⟨p, hp, rfl⟩ := reg_of (x := a) fa
    show okQ (if m (tn b) = 1 ∧ m (tn c) = 1 then mgiv m (tn (nI p)) 1 (m (40 + tn b) &&& m (40 + tn c)) else mtrp m 1)
    exact okQ_if (okQ_giv (by rw [tnn (by omega)]; omega)) okQ_trp
  | 13, _, fa, fb, fc =>
    obtain ⟨p, hp, rfl⟩ := reg_of (x := a) fa
    exact okQ_cel (fun q hq => okQ_giv (by rw [tnn (by omega)]; omega))
  | 14, _, fa, fb, fc => exact okQ_cel (fun q hq => okQ_giv hq)
  | 15, _, fa, fb, fc => exact Or.inl rfl
  | 16, _, fa, fb, fc =>
    show okQ (if m (tn a) = 1 then ((if m (40 + tn a) = 1 then upd m 120 b else m), 0, -1, -1) else mtrp m 1)
    exact okQ_if (Or.inl rfl) okQ_trp
  | 17, _, fa, fb, fc =>
    show okQ (if m 121 = 8 then mtrp m 4 else (upd (upd (upd m (122 + tn (m 121)) (m 120)) 121 (m 121 + 1)) 120 a, 0, -1, -1))
    exact okQ_if okQ_trp (Or.inl rfl)
  | 18, _, fa, fb, fc =>
    show okQ (if m 121 = 0 then (upd m 132 2, 0, -1, -1) else (upd (upd m 121 (m 121 - 1)) 120 (m (122 + tn (m 121 - 1))), 0, -1, -1))
    exact okQ_if (Or.inl rfl) (Or.inl rfl)
  | 19, _, fa, fb, fc =>
    obtain ⟨p, hp, rfl⟩ := reg_of (x := a) fa
    exact Or.inr ⟨p, by omega, rfl⟩
  | 20, _, fa, fb, fc =>
    obtain ⟨p, hp, rfl⟩ := reg_of (x := a) fa
    exact Or.inr ⟨p, by omega, rfl⟩
  | 21, _, fa, fb, fc => exact Or.inl rfl
  | 22, _, fa, fb, fc =>
    obtain ⟨p, hp, rfl⟩ := reg_of (x := a) fa
    exact okQ_giv (by rw [tnn (by omega)]; omega)
  | k + 23, hk, _, _, _ => omega
theorem step_put {P : Prg} {m : Row} {num en : Int32} (hP : okP P) (h : okR m) : okQ (mstep P m num en) := by
  obtain ⟨cn, hc1, hc2⟩ := h.1
  unfold mstep
  dsimp only
  by_cases q : kindOf P (m 120) = -1
  · rw [if_pos q]; exact Or.inl rfl
  · rw [if_neg q]
    rw [hc2] at q ⊢
    obtain ⟨c64, ek⟩ := kind_in hc1 q
    obtain ⟨k, hk23, ek2⟩ := fine_k (hP cn c64) (by rw [← ek]; exact q)
    have hv := hP cn c64
    rw [ek2] at hv
    rw [ek, ek2, tnn (show k < 2 ^ 31 by omega), tnn (show cn < 2 ^ 31 by omega)]
    exact okQ_do (m := upd m 120 (imin 64 (nI cn + 1))) (num := num) (en := en) hk23 hv
