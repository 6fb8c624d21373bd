/-! the class: every call returns (what is read) -/
def Tt {α : Type} (x : Option α) (P : α → Prop) : Prop := ∃ y, x = some y ∧ P y
theorem tt_s {α : Type} {y : α} {P : α → Prop} (h : P y) : Tt (some y) P := ⟨y, rfl, h⟩
theorem tt_ob {α β : Type} {x : Option α} {f : α → Option β} {Q : α → Prop} {P : β → Prop} (h : Tt x Q) (k : ∀ y, Q y → Tt (f y) P) : Tt (ob x f) P := by
  obtain ⟨y, e, q⟩ := h
  rw [ob_e e]
  exact k y q
theorem tt_ck {α : Type} {p : Prop} [Decidable p] {a : Option α} {P : α → Prop} (h : p) (k : Tt a P) : Tt (ck p a) P := by rw [ck_t h]; exact k
theorem tt_lt {α β : Type} {x : α} {f : α → Option β} {P : β → Prop} (k : Tt (f x) P) : Tt (lt1 x f) P := k
theorem tt_if {α : Type} {c : Prop} [Decidable c] {a b : Option α} {P : α → Prop} (ha : c → Tt a P) (hb : ¬ c → Tt b P) : Tt (if c then a else b) P := by
  by_cases q : c
  · rw [if_pos q]; exact ha q
  · rw [if_neg q]; exact hb q
theorem tt_om {α β : Type} {x : Option α} {a : Option β} {f : α → Option β} {P : β → Prop} (ha : x = none → Tt a P) (hb : ∀ y, x = some y → Tt (f y) P) : Tt (om x a f) P := by
  cases x with
  | none => exact ha rfl
  | some y => exact hb y rfl
theorem tt_os {α β γ : Type} {x : α ⊕ β} {f : α → Option γ} {g : β → Option γ} {P : γ → Prop} (ha : ∀ a, x = .inl a → Tt (f a) P) (hb : ∀ c, x = .inr c → Tt (g c) P) : Tt (os x f g) P := by
  cases x with
  | inl a => exact ha a rfl
  | inr c => exact hb c rfl
theorem tt_w {α : Type} {x : Option α} {P Q : α → Prop} (h : Tt x P) (k : ∀ y, P y → Q y) : Tt x Q := by
  obtain ⟨y, e, p⟩ := h
  exact ⟨y, e, k y p⟩
theorem tt_b {α β : Type} {x : Option α} {f : α → β} {Q : α → Prop} {P : β → Prop} (h : Tt x Q) (k : ∀ y, Q y → P (f y)) : Tt (ob x (fun y => some (f y))) P := tt_ob h (fun y hy => tt_s (k y hy))
def PS {σ ρ : Type} (A : σ → Prop) (B : ρ → Prop) (x : σ ⊕ ρ) : Prop := match x with
  | .inl s => A s
  | .inr r => B r
theorem tt_l {σ ρ : Type} {A : σ → Prop} {B : ρ → Prop} {s : σ} (h : A s) : Tt (some (.inl s : σ ⊕ ρ)) (PS A B) := tt_s h
theorem tt_r {σ ρ : Type} {A : σ → Prop} {B : ρ → Prop} {r : ρ} (h : B r) : Tt (some (.inr r : σ ⊕ ρ)) (PS A B) := tt_s h
theorem tt_lp {σ ρ : Type} {body : σ → Option (σ ⊕ ρ)} {I : σ → Prop} {m : σ → Nat} {P : ρ → Prop} (h : ∀ s, I s → Tt (body s) (PS (fun s' => I s' ∧ m s' < m s) P)) : ∀ (f : Nat) (s : σ), m s < f → I s → Tt (lp body f s) P
  | 0, s, h1, _ => by omega
  | f + 1, s, h1, h2 => by
    obtain ⟨x, e, q⟩ := h s h2
    cases x with
    | inl s' =>
      have q : I s' ∧ m s' < m s := q
      obtain ⟨r, e2, hR⟩ := tt_lp h f s' (by omega) q.1
      refine ⟨r, ?_, hR⟩
      unfold lp
      rw [e]
      exact e2
    | inr r =>
      refine ⟨r, ?_, q⟩
      unfold lp
      rw [e]
theorem t_m1 : (-1 : Int32).toInt = -1 := rfl
theorem t_0 : (0 : Int32).toInt = 0 := rfl
theorem t_1 : (1 : Int32).toInt = 1 := rfl
theorem t_2 : (2 : Int32).toInt = 2 := rfl
theorem t_4 : (4 : Int32).toInt = 4 := rfl
theorem t_8 : (8 : Int32).toInt = 8 := rfl
theorem t_10 : (10 : Int32).toInt = 10 := rfl
theorem t_18 : (18 : Int32).toInt = 18 := rfl
theorem t_23 : (23 : Int32).toInt = 23 := rfl
theorem t_32 : (32 : Int32).toInt = 32 := rfl
theorem t_40 : (40 : Int32).toInt = 40 := rfl
theorem t_64 : (64 : Int32).toInt = 64 := rfl
theorem t_100 : (100 : Int32).toInt = 100 := rfl
theorem t_500 : (500 : Int32).toInt = 500 := rfl
theorem t_800 : (800 : Int32).toInt = 800 := rfl
theorem t_900 : (900 : Int32).toInt = 900 := rfl
theorem t_3000 : (3000 : Int32).toInt = 3000 := rfl
theorem t_3800 : (3800 : Int32).toInt = 3800 := rfl
theorem t_lo {x : Int32} : -2147483648 ≤ x.toInt := Int32.le_toInt x
theorem t_hi {x : Int32} : x.toInt < 2147483648 := Int32.toInt_lt x
theorem t_a1 {x : Int32} (h : x.toInt < 2147483647) : (x + 1).toInt = x.toInt + 1 := by
  have := t_lo (x := x)
  rw [Int32.toInt_add, t_1, Int.bmod_eq_of_le (by omega) (by omega)]
theorem t_d1 {x : Int32} (h : -2147483648 < x.toInt) : (x + (-1)).toInt = x.toInt - 1 := by
  have := t_hi (x := x)
  rw [Int32.toInt_add, t_m1, Int.bmod_eq_of_le (by omega) (by omega)]
  omega
theorem t_s1 {x : Int32} (h : -2147483648 < x.toInt) : (x - 1).toInt = x.toInt - 1 := by
  have := t_hi (x := x)
  rw [Int32.toInt_sub, t_1, Int.bmod_eq_of_le (by omega) (by omega)]
theorem tt_rd {α : Type} {h : Option Int32} {c v : α} {x : Int32} {N : Nat} (hh : Tt h (fun r => ¬ r = 0 → inb x N)) : Tt (ob h (fun r1 => if r1 = 0 then some c else ck (inb x N) (some v))) (fun _ => True) := tt_ob hh (fun r hr => tt_if (fun _ => tt_s trivial) (fun q => tt_ck (hr q) (tt_s trivial)))
section WKR
variable {F o o' : Nat} {x y z q : Int32} {u : rg_U}
theorem z_has0 : Tt (g_X0_has F x u) (fun r => ¬ r = 0 → inb x 100) := by
  unfold g_X0_has
  exact tt_if (fun _ => tt_s fun q => absurd rfl q) (fun h1 => tt_if (fun _ => tt_s fun q => absurd rfl q) (fun h2 => tt_if (fun _ => tt_s fun q => absurd rfl q) (fun h3 => tt_s fun _ => (by (try simp only [inb, Int32.lt_iff_toInt_lt, Int32.le_iff_toInt_le, t_m1, t_0, t_1, t_2, t_4, t_8, t_10, t_18, t_23, t_32, t_40, t_64, t_100, t_500, t_800, t_900, t_3000, t_3800] at *) <;> omega))))
theorem z_has1 : Tt (g_X1_has F o x u) (fun r => ¬ r = 0 → inb x 100) := by
  unfold g_X1_has
  exact tt_if (fun _ => tt_s fun q => absurd rfl q) (fun h1 => tt_if (fun _ => tt_s fun q => absurd rfl q) (fun h2 => tt_if (fun _ => tt_s fun q => absurd rfl q) (fun h3 => tt_s fun _ => (by (try simp only [inb, Int32.lt_iff_toInt_lt, Int32.le_iff_toInt_le, t_m1, t_0, t_1, t_2, t_4, t_8, t_10, t_18, t_23, t_32, t_40, t_64, t_100, t_500, t_800, t_900, t_3000, t_3800] at *) <;> omega))))
theorem z_has2 : Tt (g_X2_has F o x u) (fun r => ¬ r = 0 → inb x 64) := by
  unfold g_X2_has
  exact tt_if (fun _ => tt_s fun q => absurd rfl q) (fun h1 => tt_if (fun _ => tt_s fun q => absurd rfl q) (fun h2 => tt_if (fun _ => tt_s fun q => absurd rfl q) (fun h3 => tt_s fun _ => (by (try simp only [inb, Int32.lt_iff_toInt_lt, Int32.le_iff_toInt_le, t_m1, t_0, t_1, t_2, t_4, t_8, t_10, t_18, t_23, t_32, t_40, t_64, t_100, t_500, t_800, t_900, t_3000, t_3800] at *) <;> omega))))
theorem z_has3 : Tt (g_X3_has F o x u) (fun r => ¬ r = 0 → inb x 800) := by
  unfold g_X3_has
  exact tt_if (fun _ => tt_s fun q => absurd rfl q) (fun h1 => tt_if (fun _ => tt_s fun q => absurd rfl q) (fun h2 => tt_if (fun _ => tt_s fun q => absurd rfl q) (fun h3 => tt_s fun _ => (by (try simp only [inb, Int32.lt_iff_toInt_lt, Int32.le_iff_toInt_le, t_m1, t_0, t_1, t_2, t_4, t_8, t_10, t_18, t_23, t_32, t_40, t_64, t_100, t_500, t_800, t_900, t_3000, t_3800] at *) <;> omega))))
theorem z_has6 : Tt (g_X6_has F o x u) (fun r => ¬ r = 0 → inb x 3800) := by
  unfold g_X6_has
  exact tt_if (fun _ => tt_s fun q => absurd rfl q) (fun h1 => tt_if (fun _ => tt_s fun q => absurd rfl q) (fun h2 => tt_if (fun _ => tt_s fun q => absurd rfl q) (fun h3 => tt_s fun _ => (by (try simp only [inb, Int32.lt_iff_toInt_lt, Int32.le_iff_toInt_le, t_m1, t_0, t_1, t_2, t_4, t_8, t_10, t_18, t_23, t_32, t_40, t_64, t_100, t_500, t_800, t_900, t_3000, t_3800] at *) <;> omega))))
theorem z_hasT : Tt (g_X7_hasTime F o x u) (fun r => ¬ r = 0 → inb x 3001) := by
  unfold g_X7_hasTime
  exact tt_if (fun _ => tt_s fun q => absurd rfl q) (fun h1 => tt_if (fun _ => tt_s fun q => absurd rfl q) (fun h2 => tt_if (fun _ => tt_s fun q => absurd rfl q) (fun h3 => tt_s fun _ => (by (try simp only [inb, Int32.lt_iff_toInt_lt, Int32.le_iff_toInt_le, t_m1, t_0, t_1, t_2, t_4, t_8, t_10, t_18, t_23, t_32, t_40, t_64, t_100, t_500, t_800, t_900, t_3000, t_3800] at *) <;> omega))))
theorem z_callOne : Tt (g_X0_callOfOne F x u) (fun _ => True) := by unfold g_X0_callOfOne; exact tt_rd z_has0
theorem z_callOther : Tt (g_X0_callOfOther F x u) (fun _ => True) := by unfold g_X0_callOfOther; exact tt_rd z_has0
theorem z_timeOf6 : Tt (g_X6_timeOf F o x u) (fun _ => True) := by unfold g_X6_timeOf; exact tt_rd z_has6
theorem z_placeOf : Tt (g_X6_placeOf F o x u) (fun _ => True) := by unfold g_X6_placeOf; exact tt_rd z_has6
theorem z_changesOf : Tt (g_X6_changesOf F o x u) (fun _ => True) := by unfold g_X6_changesOf; exact tt_rd z_has6
theorem z_aheadOf : Tt (g_X6_aheadOf F o x u) (fun _ => True) := by unfold g_X6_aheadOf; exact tt_rd z_has6
theorem z_counterAt : Tt (g_X7_counterAt F o x u) (fun _ => True) := by unfold g_X7_counterAt; exact tt_rd z_hasT
theorem z_topAt : Tt (g_X7_topAt F o x u) (fun _ => True) := by unfold g_X7_topAt; exact tt_rd z_hasT
theorem z_outsAt : Tt (g_X7_outsAt F o x u) (fun _ => True) := by unfold g_X7_outsAt; exact tt_rd z_hasT
theorem z_checkAt : Tt (g_X7_checkAt F o x u) (fun _ => True) := by unfold g_X7_checkAt; exact tt_rd z_hasT
theorem z_timeOf2 : Tt (g_X2_timeOf F o x u) (fun _ => True) := by unfold g_X2_timeOf; exact tt_rd z_has2
theorem z_sortOf : Tt (g_X6_sortOf F o x u) (fun _ => True) := by
  unfold g_X6_sortOf
  exact tt_if (fun _ => tt_s trivial) (fun h1 => tt_if (fun _ => tt_s trivial) (fun h2 => tt_if (fun _ => tt_s trivial) (fun h3 => tt_ck (by (try simp only [inb, Int32.lt_iff_toInt_lt, Int32.le_iff_toInt_le, t_m1, t_0, t_1, t_2, t_4, t_8, t_10, t_18, t_23, t_32, t_40, t_64, t_100, t_500, t_800, t_900, t_3000, t_3800] at *) <;> omega) (tt_s trivial))))
theorem z_numberOf : Tt (g_X6_numberOf F o x u) (fun _ => True) := by
  unfold g_X6_numberOf
  exact tt_if (fun _ => tt_s trivial) (fun h1 => tt_if (fun _ => tt_s trivial) (fun h2 => tt_if (fun _ => tt_s trivial) (fun h3 => tt_ck (by (try simp only [inb, Int32.lt_iff_toInt_lt, Int32.le_iff_toInt_le, t_m1, t_0, t_1, t_2, t_4, t_8, t_10, t_18, t_23, t_32, t_40, t_64, t_100, t_500, t_800, t_900, t_3000, t_3800] at *) <;> omega) (tt_s trivial))))
theorem z_hasValue : Tt (g_X6_hasValue F o x y z u) (fun _ => True) := by
  unfold g_X6_hasValue
  exact tt_ob z_sortOf (fun r _ => tt_if (fun _ => tt_ob z_numberOf (fun r2 _ => tt_if (fun _ => tt_s trivial) (fun _ => tt_s trivial))) (fun _ => tt_s trivial))
theorem z_place {x : Int32} (h : ¬ g_X9_isPlace x = 0) : inb x 40 := by
  obtain ⟨k, hk, rfl⟩ := isPl (x := x) (by rw [← cl_place]; exact h)
  exact inb_nI hk (by decide)
theorem z_iplace {x : Int32} (h : ¬ g_X9_isInstructionPlace x = 0) : inb x 64 := by
  rw [cl_ipl] at h
  obtain ⟨k, hk, rfl⟩ := isIn63 h
  exact inb_nI hk (by decide)
theorem z_latestOf : Tt (g_X6_latestOf F o x u) (fun _ => True) := by
  unfold g_X6_latestOf
  exact tt_if (fun _ => tt_s trivial) (fun h => tt_ck (z_place h) (tt_s trivial))
theorem z_isLike : Tt (g_X1_isLike F o x o' y u) (fun _ => True) := by
  unfold g_X1_isLike
  refine tt_ob z_has1 (fun r hr => tt_if (fun _ => tt_s trivial) (fun q => tt_ob z_has1 (fun r2 hr2 => tt_if (fun _ => tt_s trivial) (fun q2 => tt_ck (hr q) (tt_ck (hr2 q2) (tt_if (fun _ => tt_ck (hr q) (tt_ck (hr2 q2) (tt_if (fun _ => tt_s trivial) (fun _ => tt_s trivial)))) (fun _ => tt_s trivial)))))))
theorem z_read1 : Tt (g_X1_read F o x y u) (fun _ => True) := by
  unfold g_X1_read
  exact tt_ob z_has1 (fun r hr => tt_if (fun _ => tt_s trivial) (fun q => tt_if (fun _ => tt_ck (hr q) (tt_s trivial)) (fun _ => tt_if (fun _ => tt_ck (hr q) (tt_s trivial)) (fun _ => tt_if (fun _ => tt_ck (hr q) (tt_s trivial)) (fun _ => tt_s trivial)))))
theorem z_read3 : Tt (g_X3_read F o x y u) (fun _ => True) := by
  unfold g_X3_read
  exact tt_ob z_has3 (fun r hr => tt_if (fun _ => tt_s trivial) (fun q => tt_if (fun _ => tt_ck (hr q) (tt_s trivial)) (fun _ => tt_if (fun _ => tt_ck (hr q) (tt_s trivial)) (fun _ => tt_if (fun _ => tt_ck (hr q) (tt_s trivial)) (fun _ => tt_if (fun _ => tt_ck (hr q) (tt_s trivial)) (fun _ => tt_if (fun _ => tt_ck (hr q) (tt_s trivial)) (fun _ => tt_s trivial)))))))
theorem z_isBehind : Tt (g_X3_isBehind F o x y u) (fun r => ¬ r = 0 → inb x 800) := by
  unfold g_X3_isBehind
  exact tt_ob z_has3 (fun r hr => tt_if (fun _ => tt_s fun q => absurd rfl q) (fun q => tt_ck (hr q) (tt_if (fun _ => tt_ck (hr q) (tt_if (fun _ => tt_s fun q => absurd rfl q) (fun _ => tt_s fun _ => hr q))) (fun _ => tt_ck (hr q) (tt_if (fun _ => tt_s fun q => absurd rfl q) (fun _ => tt_s fun _ => hr q))))))
theorem z_goesAt : Tt (g_X2_goesAt F o x u) (fun _ => True) := by
  unfold g_X2_goesAt
  exact tt_ob z_has2 (fun r hr => tt_if (fun _ => tt_s trivial) (fun q => tt_ck (hr q) (tt_if (fun _ => tt_s trivial) (fun _ => tt_if (fun h1 => tt_ck (hr q) (tt_ck (fun h0 => by rw [h0] at h1; exact absurd h1 (by decide)) (tt_s trivial))) (fun _ => tt_s trivial)))))
theorem z_kindAt : Tt (g_X5_kindAt F o x u) (fun _ => True) := by
  unfold g_X5_kindAt
  exact tt_if (fun _ => tt_s trivial) (fun h => tt_ck (z_iplace h) (tt_s trivial))
theorem z_firstAt : Tt (g_X5_firstAt F o x u) (fun _ => True) := by
  unfold g_X5_firstAt
  exact tt_if (fun _ => tt_s trivial) (fun h => tt_ck (z_iplace h) (tt_s trivial))
theorem z_secondAt : Tt (g_X5_secondAt F o x u) (fun _ => True) := by
  unfold g_X5_secondAt
  exact tt_if (fun _ => tt_s trivial) (fun h => tt_ck (z_iplace h) (tt_s trivial))
theorem z_thirdAt : Tt (g_X5_thirdAt F o x u) (fun _ => True) := by
  unfold g_X5_thirdAt
  exact tt_if (fun _ => tt_s trivial) (fun h => tt_ck (z_iplace h) (tt_s trivial))
theorem z_isFull : Tt (g_X3_isFull F o u) (fun _ => True) := by
  unfold g_X3_isFull
  exact tt_if (fun _ => tt_s trivial) (fun _ => tt_s trivial)
theorem z_status : Tt (g_X7_statusWith F o u) (fun _ => True) := by
  have j55 : Tt (g_X7_statusWith_j55 F o u) (fun _ => True) := by
    unfold g_X7_statusWith_j55
    exact tt_ob z_isFull (fun _ _ => tt_if (fun _ => tt_s trivial) (fun _ => tt_s trivial))
  have j43 : ∀ x, Tt (g_X7_statusWith_j43 F o x u) (fun _ => True) := by
    intro x
    unfold g_X7_statusWith_j43
    exact tt_if (fun _ => j55) (fun _ => tt_if (fun _ => j55) (fun _ => tt_s trivial))
  unfold g_X7_statusWith
  exact tt_if (fun _ => tt_ob z_counterAt (fun _ _ => tt_ob z_kindAt (fun _ _ => tt_if (fun _ => tt_if (fun _ => tt_s trivial) (fun _ => j43 _)) (fun _ => j43 _)))) (fun _ => tt_s trivial)
theorem z_canStep : Tt (g_X7_canStep F o u) (fun _ => True) := by
  unfold g_X7_canStep
  exact tt_if (fun _ => tt_s trivial) (fun _ => tt_ob z_status (fun _ _ => tt_if (fun _ => tt_s trivial) (fun _ => tt_s trivial)))
theorem z_isWatched : Tt (g_X9_isWatched F x u) (fun r => r = 0 ∨ r = 1) := by
  unfold g_X9_isWatched
  exact tt_if (fun _ => tt_s (Or.inl rfl)) (fun _ => tt_if (fun _ => tt_if (fun _ => tt_s (Or.inr rfl)) (fun _ => tt_s (Or.inl rfl))) (fun _ => tt_if (fun _ => tt_s (Or.inr rfl)) (fun _ => tt_s (Or.inl rfl))))
theorem z_isKept : Tt (g_X9_isKept F x u) (fun r => ¬ r = 0 → inb x 4) := by
  unfold g_X9_isKept
  exact tt_if (fun _ => tt_s fun q => absurd rfl q) (fun h1 => tt_if (fun _ => tt_s fun q => absurd rfl q) (fun h2 => tt_if (fun _ => tt_s fun q => absurd rfl q) (fun h3 => tt_s fun _ => (by (try simp only [inb, Int32.lt_iff_toInt_lt, Int32.le_iff_toInt_le, t_m1, t_0, t_1, t_2, t_4, t_8, t_10, t_18, t_23, t_32, t_40, t_64, t_100, t_500, t_800, t_900, t_3000, t_3800] at *) <;> omega))))
theorem z_isMarked {N : Nat} (hN : N < 2 ^ 31) : Tt (g_X9_isMarked F o N x u) (fun _ => True) := by
  unfold g_X9_isMarked
  have hN' : (Int32.ofNat N).toInt = N := nI_toInt (n := N) hN
  exact tt_if (fun _ => tt_s trivial) (fun h1 => tt_if (fun _ => tt_s trivial) (fun h2 => tt_ck (by (try simp only [inb, Int32.lt_iff_toInt_lt, Int32.le_iff_toInt_le, t_m1, t_0, t_1, t_2, t_4, t_8, t_10, t_18, t_23, t_32, t_40, t_64, t_100, t_500, t_800, t_900, t_3000, t_3800] at *) <;> omega) (tt_if (fun _ => tt_s trivial) (fun _ => tt_s trivial))))
theorem z_isInstruction : Tt (g_X9_isInstruction F x y z q u) (fun _ => True) := by
  unfold g_X9_isInstruction
  refine tt_if (fun _ => tt_s trivial) (fun h1 => tt_if (fun _ => tt_s trivial) (fun h2 => tt_if (fun _ => tt_s trivial) (fun h3 => tt_if (fun h4 => ?_) (fun _ => tt_s trivial))))
  have hi : inb x 23 := (by (try simp only [inb, Int32.lt_iff_toInt_lt, Int32.le_iff_toInt_le, t_m1, t_0, t_1, t_2, t_4, t_8, t_10, t_18, t_23, t_32, t_40, t_64, t_100, t_500, t_800, t_900, t_3000, t_3800] at *) <;> omega)
  exact tt_ck hi (tt_if (fun _ => tt_s trivial) (fun _ => tt_ck hi (tt_if (fun _ => tt_s trivial) (fun _ => tt_ck hi (tt_if (fun _ => tt_s trivial) (fun _ => tt_s trivial))))))
theorem z_reckoned : Tt (g_X8_reckoned F x y z u) (fun _ => True) := by
  unfold g_X8_reckoned
  exact tt_if (fun _ => tt_s trivial) (fun _ => tt_if (fun _ => tt_s trivial) (fun _ => tt_if (fun _ => tt_s trivial) (fun _ => tt_if (fun _ => tt_if (fun _ => tt_s trivial) (fun h => tt_ck h (tt_s trivial))) (fun _ => tt_if (fun _ => tt_s trivial) (fun h => tt_ck h (tt_s trivial))))))
/-! loops that change nothing -/
theorem z_stackSize (hF : 10000 < F) : Tt (g_X7_stackSizeAt F o x u) (fun r => 0 ≤ r.toInt ∧ r.toInt ≤ 8) := by
  unfold g_X7_stackSizeAt
  refine tt_ob z_topAt (fun r1 _ => tt_ob (tt_lp (I := fun s => 0 ≤ s.1.toInt ∧ s.1.toInt ≤ 8) (m := fun s => (8 - s.1.toInt).toNat) (P := fun r => 0 ≤ r.toInt ∧ r.toInt ≤ 8) ?_ F _ ?_ ?_) (fun r hr => tt_s hr))
  · rintro ⟨a, c⟩ ⟨h1, h2⟩
    dsimp only at h1 h2 ⊢
    unfold g_X7_stackSizeAt_l8
    refine tt_if (fun _ => tt_r ⟨h1, h2⟩) (fun _ => tt_if (fun _ => tt_r ⟨h1, h2⟩) (fun h3 => tt_ob z_topAt (fun r _ => tt_l ?_)))
    have h4 : a.toInt < 8 := (by (try simp only [inb, Int32.lt_iff_toInt_lt, Int32.le_iff_toInt_le, t_m1, t_0, t_1, t_2, t_4, t_8, t_10, t_18, t_23, t_32, t_40, t_64, t_100, t_500, t_800, t_900, t_3000, t_3800] at *) <;> omega)
    have := t_a1 (x := a) (by omega)
    dsimp only
    omega
  · dsimp only
    rw [t_0]
    omega
  · dsimp only
    rw [t_0]
    omega
theorem z_stackedAt (hF : 10000 < F) : Tt (g_X7_stackedAt F o x y u) (fun _ => True) := by
  unfold g_X7_stackedAt
  refine tt_ob (z_stackSize hF) (fun r1 hr1 => tt_if (fun _ => tt_s trivial) (fun hy => tt_if (fun _ => tt_ob z_topAt (fun r5 _ => tt_ob (tt_lp (I := fun s => -1 ≤ s.2.toInt ∧ s.2.toInt ≤ 8) (m := fun s => (s.2.toInt - y.toInt).toNat) (P := fun _ => True) ?_ F _ ?_ ?_) (fun r hr => tt_ob z_counterAt (fun _ _ => tt_s trivial)))) (fun _ => tt_s trivial)))
  · rintro ⟨a, c⟩ ⟨h1, h2⟩
    dsimp only at h1 h2 ⊢
    unfold g_X7_stackedAt_l30
    refine tt_if (fun _ => tt_r trivial) (fun h3 => tt_ob z_topAt (fun r _ => tt_l ?_))
    have h4 : y.toInt < c.toInt ∧ 0 ≤ y.toInt := (by (try simp only [inb, Int32.lt_iff_toInt_lt, Int32.le_iff_toInt_le, t_m1, t_0, t_1, t_2, t_4, t_8, t_10, t_18, t_23, t_32, t_40, t_64, t_100, t_500, t_800, t_900, t_3000, t_3800] at *) <;> omega)
    have := t_d1 (x := c) (by omega)
    dsimp only
    omega
  · dsimp only
    have := t_s1 (x := r1) (by omega)
    have h4 : 0 ≤ y.toInt := (by (try simp only [inb, Int32.lt_iff_toInt_lt, Int32.le_iff_toInt_le, t_m1, t_0, t_1, t_2, t_4, t_8, t_10, t_18, t_23, t_32, t_40, t_64, t_100, t_500, t_800, t_900, t_3000, t_3800] at *) <;> omega)
    omega
  · dsimp only
    have := t_s1 (x := r1) (by omega)
    omega
theorem z_stackLike (hF : 10000 < F) : Tt (g_X7_hasStackLike F o x o' u) (fun _ => True) := by
  unfold g_X7_hasStackLike
  refine tt_ob z_topAt (fun r1 _ => tt_ob z_topAt (fun r2 _ => tt_ob (tt_lp (I := fun s => 0 ≤ s.2.2.toInt ∧ s.2.2.toInt ≤ 8) (m := fun s => (8 - s.2.2.toInt).toNat) (P := fun _ => True) ?_ F _ ?_ ?_) (fun r hr => tt_os (fun _ _ => tt_s trivial) (fun c _ => ?_))))
  · rintro ⟨a, b, c⟩ ⟨h1, h2⟩
    dsimp only at h1 h2 ⊢
    unfold g_X7_hasStackLike_l16
    refine tt_if (fun _ => tt_r trivial) (fun h3 => tt_if (fun _ => tt_r trivial) (fun _ => tt_if (fun _ => tt_r trivial) (fun _ => tt_ob z_counterAt (fun _ _ => tt_ob z_counterAt (fun _ _ => tt_if (fun _ => tt_ob z_topAt (fun _ _ => tt_ob z_topAt (fun _ _ => tt_l ?_))) (fun _ => tt_r trivial))))))
    have h4 : c.toInt < 8 := (by (try simp only [inb, Int32.lt_iff_toInt_lt, Int32.le_iff_toInt_le, t_m1, t_0, t_1, t_2, t_4, t_8, t_10, t_18, t_23, t_32, t_40, t_64, t_100, t_500, t_800, t_900, t_3000, t_3800] at *) <;> omega)
    have := t_a1 (x := c) (by omega)
    dsimp only
    omega
  · dsimp only
    rw [t_0]
    omega
  · dsimp only
    rw [t_0]
    omega
  · unfold g_X7_hasStackLike_j70
    exact tt_if (fun _ => tt_if (fun _ => tt_s trivial) (fun _ => tt_s trivial)) (fun _ => tt_s trivial)
end WKR
