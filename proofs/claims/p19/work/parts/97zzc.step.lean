/-! the class and the reference: a step on both sides (what stays, what is logged) -/
section XU
variable {F o T N C L A0 W d k : Nat} {R : Nat → Row} {l l' : Nat → Nat} {u u' uc um um' v : rg_U} {tr a b : Int32}
theorem EX_a {j : Nat} (h : EX k tr u u' o T C L A0 W d a b) (hj : j < o + 7 ∨ (o + 11 < j ∧ j < o + 25) ∨ o + 27 < j) : u'.2.1 j = u.2.1 j := by
  rcases h with ⟨-, -, -, rfl⟩ | ⟨-, rfl⟩ | ⟨-, rfl⟩ | ⟨-, -, -, rfl⟩
  · exact caddS_n (by omega)
  · rw [laddS_n (by omega)]; rfl
  · rw [laddS_n (by omega)]; rfl
  · rfl
theorem EX_f {i : Nat} (h : EX k tr u u' o T C L A0 W d a b) (h1 : i < 601 ∨ 603 < i) (h2 : i ≠ 100 * (o + 6) + 5) (h3 : i ≠ 100 * (o + 24) + 3) : u'.1 i = u.1 i := by
  rcases h with ⟨-, -, -, rfl⟩ | ⟨-, rfl⟩ | ⟨-, rfl⟩ | ⟨-, -, -, rfl⟩
  · exact caddS_f h3
  · rw [laddS_f h2, sF_n (by omega), sF_n (by omega)]
  · rw [laddS_f h2, sF_n (by omega)]
  · rfl
theorem EX_g (h : EX k tr u u' o T C L A0 W d a b) : u'.2.2 = u.2.2 := by
  rcases h with ⟨-, -, -, rfl⟩ | ⟨-, rfl⟩ | ⟨-, rfl⟩ | ⟨-, -, -, rfl⟩ <;> rfl
theorem laddS_7 {q : Nat} {t g p s n : Int32} : (laddS u q L t g p s n).2.1 (q + 1) = upd (u.2.1 (q + 1)) L t ∧ (laddS u q L t g p s n).2.1 (q + 2) = upd (u.2.1 (q + 2)) L g ∧ (laddS u q L t g p s n).2.1 (q + 3) = upd (u.2.1 (q + 3)) L n ∧ (laddS u q L t g p s n).2.1 (q + 4) = upd (u.2.1 (q + 4)) L p ∧ (laddS u q L t g p s n).2.1 (q + 5) = upd (u.2.1 (q + 5)) L s := by
  unfold laddS
  rw [sF_A]
  refine ⟨?_, ?_, ?_, ?_, ?_⟩
  · rw [R_n (by omega), R_n (by omega), R_n (by omega), R_n (by omega), R_s]
  · rw [R_n (by omega), R_n (by omega), R_n (by omega), R_s, R_n (by omega)]
  · rw [R_s, R_n (by omega), R_n (by omega), R_n (by omega), R_n (by omega)]
  · rw [R_n (by omega), R_n (by omega), R_s, R_n (by omega), R_n (by omega)]
  · rw [R_n (by omega), R_s, R_n (by omega), R_n (by omega), R_n (by omega)]
/-- an entry more in the log -/
theorem LG_add {L0 L1 : Lg} {t g p s n : Int32} (h : LG u o L L0) (ha : agL L0 L1 L) (he : entryIs L1 L t g n p s) : LG (laddS u (o + 6) L t g p s n) o (L + 1) L1 := by
  obtain ⟨e1, e2, e3, e4, e5⟩ := laddS_7 (u := u) (L := L) (q := o + 6) (t := t) (g := g) (p := p) (s := s) (n := n)
  refine ⟨laddS_N, fun i hi => ?_⟩
  rw [show o + 7 = o + 6 + 1 from rfl, show o + 8 = o + 6 + 2 from rfl, show o + 9 = o + 6 + 3 from rfl, show o + 10 = o + 6 + 4 from rfl, show o + 11 = o + 6 + 5 from rfl, e1, e2, e3, e4, e5]
  by_cases q : i = L
  · subst q
    rw [pk_us, pk_us, pk_us, pk_us, pk_us, he.1, he.2.1, he.2.2.1, he.2.2.2.1, he.2.2.2.2]
    exact ⟨rfl, rfl, rfl, rfl, rfl⟩
  · rw [pk_un q, pk_un q, pk_un q, pk_un q, pk_un q]
    obtain ⟨a1, a2, a3, a4, a5⟩ := ha i (by omega)
    rw [a1, a2, a3, a4, a5]
    exact h.2 i (by omega)
theorem LG_f {n : Nat} {L0 : Lg} (h : LG u o n L0) (hf : u'.1 (100 * (o + 6) + 5) = u.1 (100 * (o + 6) + 5)) (ha : ∀ j, o + 7 ≤ j → j ≤ o + 11 → u'.2.1 j = u.2.1 j) : LG u' o n L0 := by
  refine ⟨hf.trans h.1, fun i hi => ?_⟩
  rw [ha (o + 7) (by omega) (by omega), ha (o + 8) (by omega) (by omega), ha (o + 9) (by omega) (by omega), ha (o + 10) (by omega) (by omega), ha (o + 11) (by omega) (by omega)]
  exact h.2 i hi
theorem stM_0 (h : stM um W = 0) : um.2.1 28 132 = 0 ∧ (kn um = 19 → 0 < W) ∧ (kn um = 19 ∨ kn um = 20 → ¬ nr um 4 = 800) := by
  unfold stM at h
  by_cases q : um.2.1 28 132 = 0
  · rw [if_pos q] at h
    refine ⟨q, fun z => ?_, fun z y => ?_⟩
    · rcases Nat.eq_zero_or_pos W with w | w
      · rw [if_pos ⟨z, w⟩] at h
        exact absurd h (by decide)
      · exact w
    · by_cases q1 : kindOf (Pm um 4) (um.2.1 28 120) = 19 ∧ W = 0
      · rw [if_pos q1] at h
        exact absurd h (by decide)
      · rw [if_neg q1, if_pos ⟨z, y⟩] at h
        exact absurd h (by decide)
  · rw [if_neg q] at h
    exact absurd h q
/-- the log, behind a step -/
theorem LG_step {P : Prg} {cn W' n' : Nat} (hO : okO9 uc A0 W) (hout : ∀ i, i < W → wt9 uc A0 i = um.2.1 29 i) (hx : rF uc 6 3 = um.1 34) (hL : LG uc o (nr um 4) (Lm um 4)) (hT4 : Tr um 4 = T) (htk : tkD um v W W' n') (hag : agL (Lm um 4) (Lm v 4) (nr um 4)) (ekn : kn um = nI k) (hk : k < 23) (hu0f : ∀ i, i ≠ 100 * o + 11 → u.1 i = uc.1 i) (hu0a : ∀ j, j < o + 30 → u.2.1 j = uc.2.1 j) (ho : 116 ≤ o) (hcn : um.2.1 28 120 = nI cn) (hcn64 : cn ≤ 64) (hP : Pm um 4 = P) (hE : EX k tr u u' o T C (nr um 4) A0 W d a (P.2.2.1 cn)) : LG u' o n' (Lm v 4) ∧ ∃ A, okO9 u' A W' ∧ (∀ i, i < W' → wt9 u' A i = v.2.1 29 i) ∧ rF u' 6 3 = v.1 34 := by
  have hL0 : LG u o (nr um 4) (Lm um 4) := LG_f hL (hu0f _ (by omega)) (fun j j1 j2 => hu0a j (by omega))
  have w0 : ∀ A i, wt9 u A i = wt9 uc A i := fun A i => by
    unfold wt9
    rw [hu0a 7 (by omega)]
  rcases hE with ⟨rfl, -, -, e⟩ | ⟨rfl, e⟩ | ⟨rfl, e⟩ | ⟨-, n19, n20, e⟩
  · rcases htk with ⟨z, -⟩ | ⟨z, -⟩ | ⟨-, -, z1, z2, z3⟩
    · rw [ekn] at z; exact absurd z (by decide)
    · rw [ekn] at z; exact absurd z (by decide)
    · subst z1 z2 z3 e
      refine ⟨LG_f hL0 (caddS_f (by omega)) (fun j j1 j2 => caddS_n (by omega)), A0, ⟨(caddS_f (by omega)).trans ((hu0f _ (by omega)).trans hO.1), (caddS_f (by omega)).trans ((hu0f _ (by omega)).trans hO.2.1), hO.2.2⟩, fun i hi => ?_, (caddS_f (by omega)).trans ((hu0f _ (by omega)).trans hx)⟩
      unfold wt9
      rw [caddS_n (by omega)]
      exact (w0 A0 i).trans (hout i hi)
  · rcases htk with ⟨-, z2, z3, z4, z5, z6, z7, z8⟩ | ⟨z, -⟩ | ⟨z, -⟩
    · have e0 : wt9 u A0 0 = um.2.1 29 0 := (w0 A0 0).trans (hout 0 z2)
      rw [z5]
      rw [hT4, ← e0] at z6
      subst e
      have hL1 : LG (sF (sF u 6 1 (nI ((A0 + 1) % 900))) 6 2 (nI (W - 1))) o (nr um 4) (Lm um 4) := LG_f hL0 (by rw [sF_n (by omega), sF_n (by omega)]) (fun _ _ _ => rfl)
      refine ⟨LG_add hL1 hag z6, (A0 + 1) % 900, ⟨?_, ?_, Nat.mod_lt _ (by omega), by have := hO.2.2.2; omega⟩, fun i hi => ?_, ?_⟩
      · show (laddS (sF (sF u 6 1 _) 6 2 _) (o + 6) (nr um 4) _ _ _ _ _).1 (100 * 6 + 1) = _
        rw [laddS_f (by omega), sF_n (by omega)]
        exact sF_y
      · show (laddS (sF (sF u 6 1 _) 6 2 _) (o + 6) (nr um 4) _ _ _ _ _).1 (100 * 6 + 2) = _
        rw [laddS_f (by omega), z4]
        exact sF_y
      · rw [z8 i hi]
        unfold wt9
        rw [laddS_n (by omega)]
        show u.2.1 7 (((A0 + 1) % 900 + i) % 900) = _
        rw [show ((A0 + 1) % 900 + i) % 900 = (A0 + (i + 1)) % 900 by omega]
        exact (w0 A0 (i + 1)).trans (hout (i + 1) (by omega))
      · show (laddS (sF (sF u 6 1 _) 6 2 _) (o + 6) (nr um 4) _ _ _ _ _).1 (100 * 6 + 3) = _
        rw [laddS_f (by omega), sF_n (by omega), sF_n (by omega), z7, ← hx]
        exact hu0f _ (by omega)
    · rw [ekn] at z; exact absurd z (by decide)
    · rw [ekn] at z; exact absurd rfl z
  · rcases htk with ⟨z, -⟩ | ⟨-, z3, z4, z5, z6, z7, z8⟩ | ⟨-, z, -⟩
    · rw [ekn] at z; exact absurd z (by decide)
    · have e0 : rF u 6 3 = um.1 34 := (hu0f _ (by omega)).trans hx
      rw [z5]
      rw [hT4, hP, hcn, tnn (by omega), ← e0] at z6
      subst e
      have hL1 : LG (sF u 6 3 (drawX (rF u 6 3))) o (nr um 4) (Lm um 4) := LG_f hL0 (by rw [sF_n (by omega)]) (fun _ _ _ => rfl)
      refine ⟨LG_add hL1 hag z6, A0, ⟨?_, ?_, hO.2.2.1, by rw [z4]; exact hO.2.2.2⟩, fun i hi => ?_, ?_⟩
      · show (laddS (sF u 6 3 _) (o + 6) (nr um 4) _ _ _ _ _).1 (100 * 6 + 1) = _
        rw [laddS_f (by omega), sF_n (by omega)]
        exact (hu0f _ (by omega)).trans hO.1
      · show (laddS (sF u 6 3 _) (o + 6) (nr um 4) _ _ _ _ _).1 (100 * 6 + 2) = _
        rw [laddS_f (by omega), sF_n (by omega), z4]
        exact (hu0f _ (by omega)).trans hO.2.1
      · rw [z8]
        unfold wt9
        rw [laddS_n (by omega)]
        exact (w0 A0 i).trans (hout i (by omega))
      · show (laddS (sF u 6 3 _) (o + 6) (nr um 4) _ _ _ _ _).1 (100 * 6 + 3) = _
        rw [laddS_f (by omega), z7, ← e0]
        exact sF_y
    · rw [ekn] at z; exact absurd rfl z
  · rcases htk with ⟨z, -⟩ | ⟨z, -⟩ | ⟨-, -, z1, z2, z3⟩
    · rw [ekn] at z; exact absurd (nI_inj (b := 19) (by omega) (by omega) z) n19
    · rw [ekn] at z; exact absurd (nI_inj (b := 20) (by omega) (by omega) z) n20
    · subst z1 z2 z3 e
      exact ⟨hL0, A0, ⟨(hu0f _ (by omega)).trans hO.1, (hu0f _ (by omega)).trans hO.2.1, hO.2.2⟩, fun i hi => (w0 A0 i).trans (hout i hi), (hu0f _ (by omega)).trans hx⟩
end XU
