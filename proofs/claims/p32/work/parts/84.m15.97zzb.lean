section W_67
-- 97zzb.step
/-! the class and the reference: a step on both sides -/
section XS
variable {F o T N : Nat} {R : Nat → Row} {l l' : Nat → Nat} {u uc um : rg_U}
theorem RunS_end {m' : Row} (h : MD u o T N R l m') (hl : ∀ t, t ≤ T → l' t = l t) (hN : N ≤ T + 1 + l' (T + 1)) : RunS (sF u o 9 (nI (T + 1))) o (T + 1) N (Rx R T m') l' := by
  obtain ⟨h1, h2, h3, h4, h5, h6⟩ := h
  refine ⟨sF_y, by omega, h3, PI_c h4 (sF_n (by omega)) (fun _ _ _ => rfl) rfl, fun t ht => ?_⟩
  rw [sF_A]
  rcases Nat.lt_or_ge T t with y | y
  · have et : t = T + 1 := by omega
    subst et
    rw [Rx_gt y, show o + 13 = o + 12 + 1 from rfl, PI_all h4]
    exact ⟨PRow_c h5 (fun _ _ _ => rfl), hN⟩
  · rw [Rx_le y, hl t y]
    exact ⟨PRow_c (h6 t y).1 (fun _ _ _ => rfl), (h6 t y).2⟩
/-- what a step leaves of all else: arrays, fields -/
def FX (u v : rg_U) (o : Nat) : Prop := v.2.2 = u.2.2 ∧ (∀ j, (j < o + 6 ∨ o + 33 < j) → v.2.1 j = u.2.1 j) ∧ ∀ k, (k < 601 ∨ (603 < k ∧ k < 100 * o) ∨ 100 * (o + 34) ≤ k) → v.1 k = u.1 k
/-- the order of a step, with all that it wants of the run -/
theorem c_perform {P : Prg} {cn d C L A0 W : Nat} {num en : Int32} (h : RunS uc o T N R l) (hT : T < 3000) (hN : N < 3800) (ho : 116 ≤ o) (hP : PG uc o P) (hok : okP P) (hc : R T 120 = nI cn) (hcn : cn ≤ 64) (h10 : rF uc o 10 = R T 132) (hd : R T 121 = nI d) (d8 : d ≤ 8) (hC : rF uc (o + 24) 3 = nI C) (hC1 : C ≤ 100) (hL : rF uc (o + 6) 5 = nI L) (hL8 : kindOf P (nI cn) = 19 ∨ kindOf P (nI cn) = 20 → L < 800) (hO : okO9 uc A0 W) (hW : kindOf P (nI cn) = 19 → 0 < W) (hn19 : kindOf P (nI cn) = 19 → num = wt9 uc A0 0) (hn20 : kindOf P (nI cn) = 20 → num = drawN (rF uc 6 3) (P.2.2.1 cn)) (hF : 10000 < F) : ∃ u0 u' v k z, u0 = prepS uc o T (imin 64 (R T 120 + 1)) (R T 130) (R T 131) (uc.2.1 (o + 33) T) ∧ g_X8_perform F o (nI cn) u0 = some (z.2.1, v) ∧ mstep P (R T) num en = (upd z.1 133 (z.1 133 + 1), z.2) ∧ PO u' v o T N R l (upd (R T) 120 (imin 64 (R T 120 + 1))) z (if kindOf P (nI cn) = -1 then (-1, -1, -1) else lkV k (P.2.1 cn) (P.2.2.1 cn) (P.2.2.2 cn) L (upd (R T) 120 (imin 64 (R T 120 + 1))) (u0.2.1 (o + 14)) N) ∧ ((kindOf P (nI cn) = -1 ∧ u' = u0) ∨ (kindOf P (nI cn) = nI k ∧ k < 23 ∧ cn < 64 ∧ EX k z.2.1 u0 u' o T C L A0 W d (P.2.1 cn) (P.2.2.1 cn) ∧ (k = 17 → z.2.1 = 0 → z.1 120 = P.2.1 cn))) := by
  have hM := MD_start (x := imin 64 (R T 120 + 1)) h hT
  generalize hu0 : prepS uc o T (imin 64 (R T 120 + 1)) (R T 130) (R T 131) (uc.2.1 (o + 33) T) = u0 at *
  have f0 : ∀ i, i ≠ 100 * o + 11 → u0.1 i = uc.1 i := fun i hi => by rw [← hu0]; exact prepS_f hi
  have g10 : rF u0 o 10 = (upd (R T) 120 (imin 64 (R T 120 + 1))) 132 := by
    rw [pk_un (by decide)]
    exact (f0 _ (by omega)).trans h10
  have g11 : rF u0 o 11 = -1 := by
    rw [← hu0]
    show (sF uc o 11 (-1)).1 (100 * o + 11) = -1
    exact sF_y
  have a0 : ∀ j, j < o + 30 → u0.2.1 j = uc.2.1 j := fun j hj => by rw [← hu0]; exact prepS_n (by omega)
  have hP0 : PG u0 o P := fun k hk => by
    rw [a0 (o + 2) (by omega), a0 (o + 3) (by omega), a0 (o + 4) (by omega), a0 (o + 5) (by omega)]
    exact hP k hk
  have trap : kindOf P (nI cn) = -1 → g_X8_perform F o (nI cn) u0 = some (5, u0) → ∃ u0' u' v k z, u0' = u0 ∧ g_X8_perform F o (nI cn) u0' = some (z.2.1, v) ∧ mstep P (R T) num en = (upd z.1 133 (z.1 133 + 1), z.2) ∧ PO u' v o T N R l (upd (R T) 120 (imin 64 (R T 120 + 1))) z (if kindOf P (nI cn) = -1 then (-1, -1, -1) else lkV k (P.2.1 cn) (P.2.2.1 cn) (P.2.2.2 cn) L (upd (R T) 120 (imin 64 (R T 120 + 1))) (u0'.2.1 (o + 14)) N) ∧ ((kindOf P (nI cn) = -1 ∧ u' = u0') ∨ (kindOf P (nI cn) = nI k ∧ k < 23 ∧ cn < 64 ∧ EX k z.2.1 u0' u' o T C L A0 W d (P.2.1 cn) (P.2.2.1 cn) ∧ (k = 17 → z.2.1 = 0 → z.1 120 = P.2.1 cn))) := by
    intro hk he
    refine ⟨u0, u0, u0, 0, mtrp (upd (R T) 120 (imin 64 (R T 120 + 1))) 5, rfl, he, ?_, po_trap hM g11 (by decide), Or.inl ⟨hk, rfl⟩⟩
    unfold mstep
    rw [hc, if_pos hk]
  by_cases q : cn < 64
  · have ekd : kindOf P (nI cn) = P.1 cn := by
      unfold kindOf
      rw [if_pos (show nI cn < 64 from nI_lt (a := cn) (b := 64) q (by decide)), tnn (by omega)]
    by_cases q1 : P.1 cn = -1
    · refine trap (ekd.trans q1) ?_
      rw [x8_perf hP0 q, q1]
      unfold perfK
      rw [if_pos rfl]
    · have hfine := hok cn q
      obtain ⟨k, hk, ek⟩ := fine_k hfine q1
      rw [ek] at hfine
      have ekk : kindOf P (nI cn) = nI k := ekd.trans ek
      have k19 : k = 19 → kindOf P (nI cn) = 19 := fun z => by rw [ekk, z]; rfl
      have k20 : k = 20 → kindOf P (nI cn) = 20 := fun z => by rw [ekk, z]; rfl
      have hO0 : okO9 u0 A0 W := ⟨(f0 _ (by omega)).trans hO.1, (f0 _ (by omega)).trans hO.2.1, hO.2.2⟩
      have w0 : wt9 u0 A0 0 = wt9 uc A0 0 := by
        unfold wt9
        rw [a0 7 (by omega)]
      have x0 : rF u0 6 3 = rF uc 6 3 := f0 _ (by omega)
      have c120 : imin 64 (R T 120 + 1) = R T 120 + 1 := by
        rw [hc, nI_1]
        unfold imin
        by_cases z : cn = 63
        · subst z; decide
        · rw [if_pos (show nI (cn + 1) < 64 from nI_lt (a := cn + 1) (b := 64) (by omega) (by decide))]
      obtain ⟨v, u', e1, e2, e3⟩ := c_order (F := F) (k := k) (a := P.2.1 cn) (b := P.2.2.1 cn) (c := P.2.2.2 cn) (num := num) (en := en) (C := C) (L := L) (A0 := A0) (W := W) (d := d) hk hM hN g10 g11 hfine ho hd (by rw [pk_un (by decide)]; exact hd) d8 (fun i hi => by rw [pk_un (by omega)]) (by rw [pk_us, c120]) (by rw [pk_un (by decide)]) ((f0 _ (by omega)).trans hC) hC1 ((f0 _ (by omega)).trans hL) (fun z => hL8 (by rcases z with z | z; exact Or.inl (k19 z); exact Or.inr (k20 z))) hO0 (fun z => hW (k19 z)) (fun z => by rw [w0]; exact hn19 (k19 z)) (fun z => by rw [x0]; exact hn20 (k20 z)) hF
      refine ⟨u0, u', v, k, _, rfl, by rw [x8_perf hP0 q, ek]; exact e1, ?_, by rw [if_neg (by rw [ekk]; exact nI_m1 (by omega))]; exact e3, Or.inr ⟨ekk, hk, q, e2, ?_⟩⟩
      · unfold mstep
        rw [hc, if_neg (by rw [ekk]; exact nI_m1 (by omega)), ekk, tnn (by omega), tnn (by omega)]
      · intro z17 ztr
        subst z17
        have e17 : mdo (upd (R T) 120 (imin 64 (R T 120 + 1))) 17 (P.2.1 cn) (P.2.2.1 cn) (P.2.2.2 cn) num en = (if (upd (R T) 120 (imin 64 (R T 120 + 1))) 121 = 8 then mtrp (upd (R T) 120 (imin 64 (R T 120 + 1))) 4 else (upd (upd (upd (upd (R T) 120 (imin 64 (R T 120 + 1))) (122 + tn ((upd (R T) 120 (imin 64 (R T 120 + 1))) 121)) ((upd (R T) 120 (imin 64 (R T 120 + 1))) 120)) 121 ((upd (R T) 120 (imin 64 (R T 120 + 1))) 121 + 1)) 120 (P.2.1 cn), 0, -1, -1)) := rfl
        rw [e17] at ztr ⊢
        by_cases q8 : (upd (R T) 120 (imin 64 (R T 120 + 1))) 121 = 8
        · rw [if_pos q8] at ztr
          exact absurd (show (4 : Int32) = 0 from ztr) (by decide)
        · rw [if_neg q8]
          dsimp only
          rw [pk_us]
  · refine trap ?_ (x8_out q hcn)
    unfold kindOf
    rw [if_neg]
    rw [show cn = 64 by omega]
    decide
end XS
end W_67
section W_68
-- 97zzc.step
/-! the class and the reference: a step on both sides (what stays, what is logged) -/
section XU
variable {F o T N C L A0 W d k : Nat} {R : Nat → Row} {l l' : Nat → Nat} {u u' uc um um' v : rg_U} {tr a b : Int32}
theorem EX_a {j : Nat} (h : EX k tr u u' o T C L A0 W d a b) (hj : j < o + 7 ∨ (o + 11 < j ∧ j < o + 25) ∨ o + 27 < j) : u'.2.1 j = u.2.1 j := by
  rcases h with ⟨-, -, -, rfl⟩ | ⟨-, rfl⟩ | ⟨-, rfl⟩ | ⟨-, -, -, rfl⟩
  · exact caddS_n (by omega)
  · rw [laddS_n (by omega)]; rfl
  · rw [laddS_n (by omega)]; rfl
  · rfl
theorem EX_f {i : Nat} (h : EX k tr u u' o T C L A0 W d a b) (h1 : i < 601 ∨ 603 < i) (h2 : i ≠ 100 * (o + 6) + 5) (h3 : i ≠ 100 * (o + 24) + 3) : u'.1 i = u.1 i := by
  rcases h with ⟨-, -, -, rfl⟩ | ⟨-, rfl⟩ | ⟨-, rfl⟩ | ⟨-, -, -, rfl⟩
  · exact caddS_f h3
  · rw [laddS_f h2, sF_n (by omega), sF_n (by omega)]
  · rw [laddS_f h2, sF_n (by omega)]
  · rfl
theorem EX_g (h : EX k tr u u' o T C L A0 W d a b) : u'.2.2 = u.2.2 := by
  rcases h with ⟨-, -, -, rfl⟩ | ⟨-, rfl⟩ | ⟨-, rfl⟩ | ⟨-, -, -, rfl⟩ <;> rfl
theorem laddS_7 {q : Nat} {t g p s n : Int32} : (laddS u q L t g p s n).2.1 (q + 1) = upd (u.2.1 (q + 1)) L t ∧ (laddS u q L t g p s n).2.1 (q + 2) = upd (u.2.1 (q + 2)) L g ∧ (laddS u q L t g p s n).2.1 (q + 3) = upd (u.2.1 (q + 3)) L n ∧ (laddS u q L t g p s n).2.1 (q + 4) = upd (u.2.1 (q + 4)) L p ∧ (laddS u q L t g p s n).2.1 (q + 5) = upd (u.2.1 (q + 5)) L s := by
  unfold laddS
  rw [sF_A]
  refine ⟨?_, ?_, ?_, ?_, ?_⟩
  · rw [R_n (by omega), R_n (by omega), R_n (by omega), R_n (by omega), R_s]
  · rw [R_n (by omega), R_n (by omega), R_n (by omega), R_s, R_n (by omega)]
  · rw [R_s, R_n (by omega), R_n (by omega), R_n (by omega), R_n (by omega)]
  · rw [R_n (by omega), R_n (by omega), R_s, R_n (by omega), R_n (by omega)]
  · rw [R_n (by omega), R_s, R_n (by omega), R_n (by omega), R_n (by omega)]
/-- an entry more in the log -/
theorem LG_add {L0 L1 : Lg} {t g p s n : Int32} (h : LG u o L L0) (ha : agL L0 L1 L) (he : entryIs L1 L t g n p s) : LG (laddS u (o + 6) L t g p s n) o (L + 1) L1 := by
  obtain ⟨e1, e2, e3, e4, e5⟩ := laddS_7 (u := u) (L := L) (q := o + 6) (t := t) (g := g) (p := p) (s := s) (n := n)
  refine ⟨laddS_N, fun i hi => ?_⟩
  rw [show o + 7 = o + 6 + 1 from rfl, show o + 8 = o + 6 + 2 from rfl, show o + 9 = o + 6 + 3 from rfl, show o + 10 = o + 6 + 4 from rfl, show o + 11 = o + 6 + 5 from rfl, e1, e2, e3, e4, e5]
  by_cases q : i = L
  · subst q
    rw [pk_us, pk_us, pk_us, pk_us, pk_us, he.1, he.2.1, he.2.2.1, he.2.2.2.1, he.2.2.2.2]
    exact ⟨rfl, rfl, rfl, rfl, rfl⟩
  · rw [pk_un q, pk_un q, pk_un q, pk_un q, pk_un q]
    obtain ⟨a1, a2, a3, a4, a5⟩ := ha i (by omega)
    rw [a1, a2, a3, a4, a5]
    exact h.2 i (by omega)
theorem LG_f {n : Nat} {L0 : Lg} (h : LG u o n L0) (hf : u'.1 (100 * (o + 6) + 5) = u.1 (100 * (o + 6) + 5)) (ha : ∀ j, o + 7 ≤ j → j ≤ o + 11 → u'.2.1 j = u.2.1 j) : LG u' o n L0 := by
  refine ⟨hf.trans h.1, fun i hi => ?_⟩
  rw [ha (o + 7) (by omega) (by omega), ha (o + 8) (by omega) (by omega), ha (o + 9) (by omega) (by omega), ha (o + 10) (by omega) (by omega), ha (o + 11) (by omega) (by omega)]
  exact h.2 i hi
theorem stM_0 (h : stM um W = 0) : um.2.1 28 132 = 0 ∧ (kn um = 19 → 0 < W) ∧ (kn um = 19 ∨ kn um = 20 → ¬ nr um 4 = 800) := by
  unfold stM at h
  by_cases q : um.2.1 28 132 = 0
  · rw [if_pos q] at h
    refine ⟨q, fun z => ?_, fun z y => ?_⟩
    · rcases Nat.eq_zero_or_pos W with w | w
      · rw [if_pos ⟨z, w⟩] at h
        exact absurd h (by decide)
      · exact w
    · by_cases q1 : kindOf (Pm um 4) (um.2.1 28 120) = 19 ∧ W = 0
      · rw [if_pos q1] at h
        exact absurd h (by decide)
      · rw [if_neg q1, if_pos ⟨z, y⟩] at h
        exact absurd h (by decide)
  · rw [if_neg q] at h
    exact absurd h q
/-- the log, behind a step -/
theorem LG_step {P : Prg} {cn W' n' : Nat} (hO : okO9 uc A0 W) (hout : ∀ i, i < W → wt9 uc A0 i = um.2.1 29 i) (hx : rF uc 6 3 = um.1 34) (hL : LG uc o (nr um 4) (Lm um 4)) (hT4 : Tr um 4 = T) (htk : tkD um v W W' n') (hag : agL (Lm um 4) (Lm v 4) (nr um 4)) (ekn : kn um = nI k) (hk : k < 23) (hu0f : ∀ i, i ≠ 100 * o + 11 → u.1 i = uc.1 i) (hu0a : ∀ j, j < o + 30 → u.2.1 j = uc.2.1 j) (ho : 116 ≤ o) (hcn : um.2.1 28 120 = nI cn) (hcn64 : cn ≤ 64) (hP : Pm um 4 = P) (hE : EX k tr u u' o T C (nr um 4) A0 W d a (P.2.2.1 cn)) : LG u' o n' (Lm v 4) ∧ ∃ A, okO9 u' A W' ∧ (∀ i, i < W' → wt9 u' A i = v.2.1 29 i) ∧ rF u' 6 3 = v.1 34 := by
  have hL0 : LG u o (nr um 4) (Lm um 4) := LG_f hL (hu0f _ (by omega)) (fun j j1 j2 => hu0a j (by omega))
  have w0 : ∀ A i, wt9 u A i = wt9 uc A i := fun A i => by
    unfold wt9
    rw [hu0a 7 (by omega)]
  rcases hE with ⟨rfl, -, -, e⟩ | ⟨rfl, e⟩ | ⟨rfl, e⟩ | ⟨-, n19, n20, e⟩
  · rcases htk with ⟨z, -⟩ | ⟨z, -⟩ | ⟨-, -, z1, z2, z3⟩
    · rw [ekn] at z; exact absurd z (by decide)
    · rw [ekn] at z; exact absurd z (by decide)
    · subst z1 z2 z3 e
      refine ⟨LG_f hL0 (caddS_f (by omega)) (fun j j1 j2 => caddS_n (by omega)), A0, ⟨(caddS_f (by omega)).trans ((hu0f _ (by omega)).trans hO.1), (caddS_f (by omega)).trans ((hu0f _ (by omega)).trans hO.2.1), hO.2.2⟩, fun i hi => ?_, (caddS_f (by omega)).trans ((hu0f _ (by omega)).trans hx)⟩
      unfold wt9
      rw [caddS_n (by omega)]
      exact (w0 A0 i).trans (hout i hi)
  · rcases htk with ⟨-, z2, z3, z4, z5, z6, z7, z8⟩ | ⟨z, -⟩ | ⟨z, -⟩
    · have e0 : wt9 u A0 0 = um.2.1 29 0 := (w0 A0 0).trans (hout 0 z2)
      rw [z5]
      rw [hT4, ← e0] at z6
      subst e
      have hL1 : LG (sF (sF u 6 1 (nI ((A0 + 1) % 900))) 6 2 (nI (W - 1))) o (nr um 4) (Lm um 4) := LG_f hL0 (by rw [sF_n (by omega), sF_n (by omega)]) (fun _ _ _ => rfl)
      refine ⟨LG_add hL1 hag z6, (A0 + 1) % 900, ⟨?_, ?_, Nat.mod_lt _ (by omega), by have := hO.2.2.2; omega⟩, fun i hi => ?_, ?_⟩
      · show (laddS (sF (sF u 6 1 _) 6 2 _) (o + 6) (nr um 4) _ _ _ _ _).1 (100 * 6 + 1) = _
        rw [laddS_f (by omega), sF_n (by omega)]
        exact sF_y
      · show (laddS (sF (sF u 6 1 _) 6 2 _) (o + 6) (nr um 4) _ _ _ _ _).1 (100 * 6 + 2) = _
        rw [laddS_f (by omega), z4]
        exact sF_y
      · rw [z8 i hi]
        unfold wt9
        rw [laddS_n (by omega)]
        show u.2.1 7 (((A0 + 1) % 900 + i) % 900) = _
        rw [show ((A0 + 1) % 900 + i) % 900 = (A0 + (i + 1)) % 900 by omega]
        exact (w0 A0 (i + 1)).trans (hout (i + 1) (by omega))
      · show (laddS (sF (sF u 6 1 _) 6 2 _) (o + 6) (nr um 4) _ _ _ _ _).1 (100 * 6 + 3) = _
        rw [laddS_f (by omega), sF_n (by omega), sF_n (by omega), z7, ← hx]
        exact hu0f _ (by omega)
    · rw [ekn] at z; exact absurd z (by decide)
    · rw [ekn] at z; exact absurd rfl z
  · rcases htk with ⟨z, -⟩ | ⟨-, z3, z4, z5, z6, z7, z8⟩ | ⟨-, z, -⟩
    · rw [ekn] at z; exact absurd z (by decide)
    · have e0 : rF u 6 3 = um.1 34 := (hu0f _ (by omega)).trans hx
      rw [z5]
      rw [hT4, hP, hcn, tnn (by omega), ← e0] at z6
      subst e
      have hL1 : LG (sF u 6 3 (drawX (rF u 6 3))) o (nr um 4) (Lm um 4) := LG_f hL0 (by rw [sF_n (by omega)]) (fun _ _ _ => rfl)
      refine ⟨LG_add hL1 hag z6, A0, ⟨?_, ?_, hO.2.2.1, by rw [z4]; exact hO.2.2.2⟩, fun i hi => ?_, ?_⟩
      · show (laddS (sF u 6 3 _) (o + 6) (nr um 4) _ _ _ _ _).1 (100 * 6 + 1) = _
        rw [laddS_f (by omega), sF_n (by omega)]
        exact (hu0f _ (by omega)).trans hO.1
      · show (laddS (sF u 6 3 _) (o + 6) (nr um 4) _ _ _ _ _).1 (100 * 6 + 2) = _
        rw [laddS_f (by omega), sF_n (by omega), z4]
        exact (hu0f _ (by omega)).trans hO.2.1
      · rw [z8]
        unfold wt9
        rw [laddS_n (by omega)]
        exact (w0 A0 i).trans (hout i (by omega))
      · show (laddS (sF u 6 3 _) (o + 6) (nr um 4) _ _ _ _ _).1 (100 * 6 + 3) = _
        rw [laddS_f (by omega), z7, ← e0]
        exact sF_y
    · rw [ekn] at z; exact absurd rfl z
  · rcases htk with ⟨z, -⟩ | ⟨z, -⟩ | ⟨-, -, z1, z2, z3⟩
    · rw [ekn] at z; exact absurd (nI_inj (b := 19) (by omega) (by omega) z) n19
    · rw [ekn] at z; exact absurd (nI_inj (b := 20) (by omega) (by omega) z) n20
    · subst z1 z2 z3 e
      exact ⟨hL0, A0, ⟨(hu0f _ (by omega)).trans hO.1, (hu0f _ (by omega)).trans hO.2.1, hO.2.2⟩, fun i hi => (w0 A0 i).trans (hout i hi), (hu0f _ (by omega)).trans hx⟩
end XU
end W_68
section W_69
-- 97zzd.step
/-! the class and the reference: a step on both sides -/
section XV
variable {pB : Prop} {F o W W' n' K : Nat} {uc um um' v : rg_U}
theorem caddS_25 {u : rg_U} {q C : Nat} {t p d : Int32} : (caddS u q C t p d).2.1 (q + 1) = upd (u.2.1 (q + 1)) C t ∧ (caddS u q C t p d).2.1 (q + 2) = upd (u.2.1 (q + 2)) C p ∧ (caddS u q C t p d).2.1 (q + 3) = upd (u.2.1 (q + 3)) C d := by
  unfold caddS
  rw [sF_A]
  exact ⟨by rw [R_n (by omega), R_n (by omega), R_s], by rw [R_n (by omega), R_s, R_n (by omega)], by rw [R_s, R_n (by omega), R_n (by omega)]⟩
/-- what holds when the next number comes -/
theorem HB_step {H H' : Nat → Int32} {U D T : Nat} (hU : 0 < U) (hD : 0 < D) (hT : T < 3000) (hHT : HT H U T) (h : ∀ k, k ≤ 3000 → ¬ H k = 0 → k = 0 ∨ (k ≤ T / U ∧ T / U < gw k D)) (hg : (¬ (T + 1) % U = 0 ∧ H' = H) ∨ ((T + 1) % U = 0 ∧ ∀ k, k ≤ 3000 → H' k = nH H D ((T + 1) / U) k)) : (∀ k, k ≤ 3000 → ¬ H' k = 0 → k = 0 ∨ (k ≤ (T + 1) / U ∧ (T + 1) / U < gw k D)) ∧ HT H' U (T + 1) := by
  rcases hg with ⟨q, rfl⟩ | ⟨q, e⟩
  · have e : (T + 1) / U = T / U := by
      rw [Nat.succ_div, if_neg (fun z => q (Nat.mod_eq_zero_of_dvd z)), Nat.add_zero]
    rw [e]
    exact ⟨h, fun k a b => Nat.le_succ_of_le (hHT k a b)⟩
  · have hw : (T + 1) / U * U = T + 1 := Nat.div_mul_cancel (Nat.dvd_of_mod_eq_zero q)
    have hwle : T / U < (T + 1) / U := by
      have h1 := Nat.div_mul_le_self T U
      rcases Nat.lt_or_ge (T / U) ((T + 1) / U) with y | y
      · exact y
      · have := Nat.mul_le_mul_right U y
        omega
    have key : ∀ k, k ≤ 3000 → ¬ H' k = 0 → k = (T + 1) / U ∨ (¬ H k = 0 ∧ (k = 0 ∨ (k ≤ T / U ∧ (T + 1) / U < gw k D))) := fun k a b => by
      rw [e k a] at b
      unfold nH at b
      by_cases q1 : k = (T + 1) / U
      · exact Or.inl q1
      · rw [if_neg q1] at b
        by_cases q2 : (1 ≤ k ∧ k < (T + 1) / U) ∧ gw k D ≤ (T + 1) / U
        · rw [if_pos q2] at b; exact absurd rfl b
        · rw [if_neg q2] at b
          refine Or.inr ⟨b, ?_⟩
          rcases h k a b with z | ⟨z1, z2⟩
          · exact Or.inl z
          · rcases Nat.eq_zero_or_pos k with z | z
            · exact Or.inl z
            · exact Or.inr ⟨z1, by omega⟩
    refine ⟨fun k a b => ?_, fun k a b => ?_⟩
    · rcases key k a b with z | ⟨-, z | ⟨z1, z2⟩⟩
      · refine Or.inr ⟨by omega, ?_⟩
        rw [z]
        unfold gw
        have : 0 < D * 2 ^ tz ((T + 1) / U) := Nat.mul_pos hD (Nat.two_pow_pos _)
        omega
      · exact Or.inl z
      · exact Or.inr ⟨by omega, z2⟩
    · rcases key k a b with z | ⟨z, -⟩
      · rw [z]; omega
      · exact Nat.le_succ_of_le (hHT k a z)
theorem HT_of {H : Nat → Int32} {U T : Nat} (h : okH H U T) : HT H U T := fun k a b => by
  rcases h.2 k a with z | ⟨-, z⟩
  · exact absurd z b
  · exact z
theorem RR_step (hm : okM um K W) (h1 : um.2.1 5 4 = 1) (hs : stM um W = 0) (hT : Tr um 4 < 3000) (hR : RR pB uc um o 4) (hO : OutR uc um W) (ho : 116 ≤ o) (hgo : goT F um = some v) (htk : tkD um v W W' n') (hgd : goD um um' v n' (mstep (Pm um 4) (um.2.1 28) ((Lm v 4).2.2.1 (nr um 4)) (nI (nr um 4)))) (hF : 10000 < F) : ∃ uc', g_X7_step F o uc = some uc' ∧ RR pB uc' um' o 4 ∧ OutR uc' um' W' ∧ FX uc uc' o ∧ CHG uc' o (um.2.1 28) (um'.2.1 28) := by
  have hc := hm.1
  have hro := hc.2.2.2.2.1 4 (Or.inr ⟨rfl, h1⟩)
  have hlive := hc.2.2.2.2.2.1 h1
  obtain ⟨q1, q2, q3, q4, q5, ⟨hU, hU2, hD, hD2⟩, hw, hH, hCk⟩ := id hro
  have hG := hw.1
  have hn8 := hG.2.2.1
  have hT3 := hG.2.2.2.1
  obtain ⟨p1, p2, p3⟩ := stM_0 hs
  obtain ⟨⟨cn, hcn, ecn⟩, d, d8, ed, -, -⟩ := (rp_ok hG (Tr um 4) (Nat.le_refl _)).1
  have eT : (rpm um 4 (Tr um 4)).1 = um.2.1 28 := hlive.symm
  have ecn' : (rpm um 4 (Tr um 4)).1 120 = nI cn := ecn
  have ed' : (rpm um 4 (Tr um 4)).1 121 = nI d := ed
  have ekn : kn um = kindOf (Pm um 4) (nI cn) := by
    unfold kn
    rw [← eT, ecn']
  obtain ⟨r1, r2, r3, r4, r5, ⟨r6, r7, r8, r9⟩, N, hS⟩ := hR
  obtain ⟨A0, o1, o2, o3⟩ := hO
  obtain ⟨v2, W2, n2, t1, -, -, -, -, -, -, hag, -⟩ := m_take hc h1 hs hF
  have ev : v2 = v := Option.some.inj (t1.symm.trans hgo)
  subst ev
  have eN : cP (uc.2.1 (o + 12 + 1)) (Tr um 4) N = N := PI_all hS.2.2.2.1
  have el : (rpm um 4 (Tr um 4)).2 = nr um 4 := hw.2.2.1
  have hN : N ≤ Tr um 4 + nr um 4 := by
    have := (hS.2.2.2.2 (Tr um 4) (Nat.le_refl _)).2
    rw [show o + 13 = o + 12 + 1 from rfl, eN] at this
    dsimp only at this
    omega
  have htk0 := htk
  obtain ⟨u0, u', vv, k, z, hu0, e1, e2, e3, e4⟩ := c_perform (F := F) (P := Pm um 4) (cn := cn) (d := d) (C := Cr um 4) (L := nr um 4) (A0 := A0) (W := W) (num := (Lm v2 4).2.2.1 (nr um 4)) (en := nI (nr um 4)) hS hT (by omega) ho r1 hG.1 ecn' hcn (r7.trans rfl) ed' d8 r3.1 hCk.1 r2.1 (fun y => by have := p3 (by rw [ekn]; exact y); omega) o1 (fun y => p2 (by rw [ekn]; exact y)) (fun y => by
    rcases htk0 with ⟨-, b2, -, -, -, b6, -⟩ | ⟨b, -⟩ | ⟨b, -⟩
    · rw [b6.2.2.1, o2 0 b2]
    · rw [ekn, y] at b; exact absurd b (by decide)
    · rw [ekn] at b; exact absurd y b) (fun y => by
    rcases htk0 with ⟨b, -⟩ | ⟨-, -, -, -, b6, -⟩ | ⟨-, b, -⟩
    · rw [ekn, y] at b; exact absurd b (by decide)
    · rw [b6.2.2.1, o3, ← eT, ecn', tnn (by omega)]
    · rw [ekn] at b; exact absurd y b) hF
  (try dsimp only at e2)
  rw [eT] at e2
  rw [e2] at hgd
  obtain ⟨⟨g1, g2, g3, g4, g5, g6, g7⟩, g8, g9, g10, g11, g12, g13, g14⟩ := hgd
  obtain ⟨N', c1, c2, c3, c4, c5, c6⟩ := e3
  have f0 : ∀ i, i ≠ 100 * o + 11 → u0.1 i = uc.1 i := fun i hi => by rw [hu0]; exact prepS_f hi
  have a0 : ∀ j, (j < o + 30 ∨ o + 33 < j) → u0.2.1 j = uc.2.1 j := fun j hj => by rw [hu0]; exact prepS_n hj
  -- what lies ahead of the order's own changes
  have hu' : u'.2.2 = uc.2.2 ∧ (∀ j, (j < o + 7 ∨ (o + 11 < j ∧ j < o + 25) ∨ (o + 27 < j ∧ j < o + 30) ∨ o + 33 < j) → u'.2.1 j = uc.2.1 j) ∧ (∀ i, (i < 601 ∨ 603 < i) → i ≠ 100 * o + 11 → i ≠ 100 * (o + 6) + 5 → i ≠ 100 * (o + 24) + 3 → u'.1 i = uc.1 i) ∧ LG u' o n' (Lm v2 4) ∧ (∃ A, okO9 u' A W' ∧ (∀ i, i < W' → wt9 u' A i = v2.2.1 29 i) ∧ rF u' 6 3 = v2.1 34) ∧ ((isCall um (upd z.1 133 (z.1 133 + 1), z.2) ∧ u' = caddS u0 (o + 24) (Cr um 4) (nI (Tr um 4)) (z.1 120) (nI d)) ∨ (¬ isCall um (upd z.1 133 (z.1 133 + 1), z.2) ∧ rF u' (o + 24) 3 = rF uc (o + 24) 3 ∧ ∀ j, o + 25 ≤ j → j ≤ o + 27 → u'.2.1 j = uc.2.1 j)) := by
    rcases e4 with ⟨k1, k2⟩ | ⟨k1, k2, k3, k4, k5⟩
    · subst k2
      refine ⟨by rw [hu0]; rfl, fun j hj => a0 j (by omega), fun i _ i2 _ _ => f0 i i2, ?_, ?_, Or.inr ⟨fun y => ?_, f0 _ (by omega), fun j j1 j2 => a0 j (by omega)⟩⟩
      · rcases htk with ⟨b, -⟩ | ⟨b, -⟩ | ⟨-, -, b1, b2, b3⟩
        · rw [ekn, k1] at b; exact absurd b (by decide)
        · rw [ekn, k1] at b; exact absurd b (by decide)
        · rw [b1, b3]
          exact LG_f r2 (f0 _ (by omega)) (fun j j1 j2 => a0 j (by omega))
      · rcases htk with ⟨b, -⟩ | ⟨b, -⟩ | ⟨-, -, b1, b2, b3⟩
        · rw [ekn, k1] at b; exact absurd b (by decide)
        · rw [ekn, k1] at b; exact absurd b (by decide)
        · rw [b1, b2]
          refine ⟨A0, ⟨(f0 _ (by omega)).trans o1.1, (f0 _ (by omega)).trans o1.2.1, o1.2.2⟩, fun i hi => ?_, (f0 _ (by omega)).trans o3⟩
          unfold wt9
          rw [a0 7 (by omega)]
          exact o2 i hi
      · have := y.1
        rw [ekn, k1] at this
        exact absurd this (by decide)
    · obtain ⟨b1, b2⟩ := LG_step (P := Pm um 4) (cn := cn) o1 o2 o3 r2 rfl htk hag (ekn.trans k1) k2 f0 (fun j hj => a0 j (by omega)) ho (by rw [← eT]; exact ecn') hcn rfl k4
      refine ⟨(EX_g k4).trans (by rw [hu0]; rfl), fun j hj => (EX_a k4 (by omega)).trans (a0 j (by omega)), fun i i1 i2 i3 i4 => (EX_f k4 i1 i3 i4).trans (f0 i i2), b1, b2, ?_⟩
      by_cases y : isCall um (upd z.1 133 (z.1 133 + 1), z.2)
      · obtain ⟨y1, y2, y3⟩ := id y
        have k17 : k = 17 := nI_inj (b := 17) (by omega) (by omega) ((ekn.trans k1).symm.trans y1)
        refine Or.inl ⟨y, ?_⟩
        rcases k4 with ⟨-, -, -, w⟩ | ⟨w, -⟩ | ⟨w, -⟩ | ⟨w, -⟩
        · rw [w, k5 k17 y2]
        · omega
        · omega
        · exact absurd ⟨k17, y2, y3⟩ w
      · refine Or.inr ⟨y, ?_⟩
        rcases k4 with ⟨w1, w2, w3, -⟩ | ⟨-, w⟩ | ⟨-, w⟩ | ⟨-, -, -, w⟩
        · refine absurd ⟨?_, w2, w3⟩ y
          rw [ekn, k1, w1]
          rfl
        · rw [w]
          refine ⟨?_, fun j j1 j2 => ?_⟩
          · show (laddS (sF (sF u0 6 1 _) 6 2 _) (o + 6) (nr um 4) _ _ _ _ _).1 (100 * (o + 24) + 3) = _
            rw [laddS_f (by omega), sF_n (by omega), sF_n (by omega)]
            exact f0 _ (by omega)
          · rw [laddS_n (by omega)]
            exact a0 j (by omega)
        · rw [w]
          refine ⟨?_, fun j j1 j2 => ?_⟩
          · show (laddS (sF u0 6 3 _) (o + 6) (nr um 4) _ _ _ _ _).1 (100 * (o + 24) + 3) = _
            rw [laddS_f (by omega), sF_n (by omega)]
            exact f0 _ (by omega)
          · rw [laddS_n (by omega)]
            exact a0 j (by omega)
        · rw [w]
          exact ⟨f0 _ (by omega), fun j j1 j2 => a0 j (by omega)⟩
  obtain ⟨s1, s2, s3, s4, ⟨A', s5, s6, s7⟩, s8⟩ := hu'
  -- behind the order: end and time
  obtain ⟨v1, hv1, w1, w2, w3, w4⟩ : ∃ v1, (if z.2.1 = 0 then g_X7_step_j121 F o (nI (Tr um 4 + 1)) vv else lt1 (sF vv o 10 (10 + z.2.1)) (fun u53 => g_X7_step_j121 F o (nI (Tr um 4 + 1)) u53)) = g_X7_step_j121 F o (nI (Tr um 4 + 1)) v1 ∧ v1.2 = vv.2 ∧ (∀ i, i ≠ 100 * o + 10 → v1.1 i = vv.1 i) ∧ rF v1 o 10 = z.1 132 ∧ MD v1 o (Tr um 4) N' (fun t => (rpm um 4 t).1) (fun t => (rpm um 4 t).2) z.1 := by
    by_cases y : z.2.1 = 0
    · exact ⟨vv, by rw [if_pos y], rfl, fun _ _ => rfl, c3 y, c1⟩
    · exact ⟨sF vv o 10 (10 + z.2.1), by rw [if_neg y, lt1_i], rfl, fun i hi => sF_n hi, by rw [sF_y, c4 y], MD_c c1 (sF_n (by omega)) (sF_n (by omega)) (fun _ _ _ _ => rfl) (fun _ _ _ => rfl)⟩
  have hn' : nr um 4 ≤ n' := by
    rcases htk with ⟨-, -, -, -, b, -⟩ | ⟨-, -, -, b, -⟩ | ⟨-, -, -, -, b⟩ <;> omega
  have hN' : N' ≤ N + 1 := by
    rcases c6.2 with ⟨b, -⟩ | ⟨b, -⟩ <;> omega
  have hS2 : RunS (sF v1 o 9 (nI (Tr um 4 + 1))) o (Tr um 4 + 1) N' (Rx (fun t => (rpm um 4 t).1) (Tr um 4) (upd z.1 133 (z.1 133 + 1))) (fun t => (rpm um' 4 t).2) := RunS_end (MD_133 w4 _) (fun t ht => by rw [g13 t ht]) (by rw [g14]; dsimp only; omega)
  generalize hv2 : sF v1 o 9 (nI (Tr um 4 + 1)) = V at *
  have f2 : ∀ i, i ≠ 100 * o + 9 → V.1 i = v1.1 i := fun i hi => by rw [← hv2]; exact sF_n hi
  have V2 : V.2 = vv.2 := by rw [← hv2]; exact w1
  have FF : ∀ i, (i < 601 ∨ 603 < i) → i ≠ 100 * o + 9 → i ≠ 100 * o + 10 → i ≠ 100 * o + 11 → i ≠ 100 * (o + 6) + 5 → i ≠ 100 * (o + 12) + 11 → i ≠ 100 * (o + 24) + 3 → V.1 i = uc.1 i := fun i i1 i2 i3 i4 i5 i6 i7 => (f2 i i2).trans ((w2 i i3).trans ((c2.2.2 i (by omega)).trans (s3 i i1 i4 i5 i7)))
  have FU : ∀ i, (i < 100 * o + 9 ∨ (100 * o + 11 < i ∧ i ≠ 100 * (o + 12) + 11)) → V.1 i = u'.1 i := fun i hi => (f2 i (by omega)).trans ((w2 i (by omega)).trans (c2.2.2 i (by omega)))
  have AU : ∀ j, (j < o + 12 ∨ (o + 23 < j ∧ j < o + 30) ∨ o + 33 < j) → V.2.1 j = u'.2.1 j := fun j hj => by rw [V2]; exact c2.2.1 j hj
  have hHI : HI V (o + 28) (Hm um 4) (Ur um 4) (Dr um 4) := HI_c r4 (FF _ (by omega) (by omega) (by omega) (by omega) (by omega) (by omega) (by omega)) (FF _ (by omega) (by omega) (by omega) (by omega) (by omega) (by omega) (by omega)) (FF _ (by omega) (by omega) (by omega) (by omega) (by omega) (by omega) (by omega)) ((AU _ (by omega)).trans (s2 _ (by omega)))
  have hHT := HT_of hH
  have ePm : Pm um' 4 = Pm um 4 := by
    unfold Pm
    rw [g9 6 (by omega), g9 7 (by omega), g9 8 (by omega), g9 9 (by omega)]
  have eU : Ur um' 4 = Ur um 4 := by
    unfold Ur
    rw [g9 23 (by omega)]
  have eD : Dr um' 4 = Dr um 4 := by
    unfold Dr
    rw [g9 24 (by omega)]
  have hg12 : (¬ (Tr um 4 + 1) % Ur um 4 = 0 ∧ Hm um' 4 = Hm um 4) ∨ ((Tr um 4 + 1) % Ur um 4 = 0 ∧ ∀ k, k ≤ 3000 → Hm um' 4 k = nH (Hm um 4) (Dr um 4) ((Tr um 4 + 1) / Ur um 4) k) := by
    rcases g12 with ⟨b1, b2, -⟩ | ⟨b1, b2, -⟩
    · exact Or.inl ⟨b1, b2⟩
    · exact Or.inr ⟨b1, b2⟩
  obtain ⟨hHB, -⟩ := HB_step hU hD hT hHT r5 hg12
  -- the time comes
  obtain ⟨V3, x1, x2, x3, x4, x5, x6⟩ : ∃ V3, g_X2_timeComes F (o + 28) (nI (Tr um 4 + 1)) V = some V3 ∧ V3.2.2 = V.2.2 ∧ (∀ j, j ≠ o + 28 + 1 → V3.2.1 j = V.2.1 j) ∧ (∀ i, i ≠ 100 * (o + 28) + 1 → i ≠ 100 * (o + 28) + 2 → V3.1 i = V.1 i) ∧ HI V3 (o + 28) (Hm um' 4) (Ur um 4) (Dr um 4) ∧ rF V3 (o + 28) 2 = um'.2.1 26 4 := by
    have e26 : rF V (o + 28) 2 = um.2.1 26 4 := (FF _ (by omega) (by omega) (by omega) (by omega) (by omega) (by omega) (by omega)).trans r6
    rcases g12 with ⟨b1, b2, b3⟩ | ⟨b1, b2, b3⟩
    · exact ⟨V, c_comesNo hHI hU hU2 (by omega) b1, rfl, fun _ _ => rfl, fun _ _ _ => rfl, by rw [b2]; exact hHI, by rw [b3]; exact e26⟩
    · have hw' : (Tr um 4 + 1) / Ur um 4 * Ur um 4 = Tr um 4 + 1 := Nat.div_mul_cancel (Nat.dvd_of_mod_eq_zero b1)
      have h3000 : (Tr um 4 + 1) / Ur um 4 ≤ 3000 := Nat.le_trans (Nat.div_le_self _ _) (by omega)
      have hcn : cH (nH (Hm um 4) (Dr um 4) ((Tr um 4 + 1) / Ur um 4)) 3001 ≤ 49 := cH_49 hD2 h3000 (fun k a b => hHB k a (by rw [b2 k a]; exact b))
      have ecH : cH (Hm um' 4) 3001 = cH (nH (Hm um 4) (Dr um 4) ((Tr um 4 + 1) / Ur um 4)) 3001 := by
        have : ∀ M, M ≤ 3001 → cH (Hm um' 4) M = cH (nH (Hm um 4) (Dr um 4) ((Tr um 4 + 1) / Ur um 4)) M := by
          intro M
          induction M with
          | zero => intro _; rfl
          | succ M ih =>
            intro hM
            unfold cH
            rw [ih (by omega), b2 M (by omega)]
        exact this 3001 (Nat.le_refl _)
      obtain ⟨V3, y1, y2, y3, y4, y5, y6⟩ := c_comesYes (F := F) (t := Tr um 4 + 1) (w := (Tr um 4 + 1) / Ur um 4) hHI hHT (by omega) hU hU2 hD hD2 hw'.symm (by omega) (by omega) hF
      refine ⟨V3, y1, y2, y3, y4, HI_H y5 b2, ?_⟩
      rw [y6, b3, e26, ecH]
  refine ⟨V3, ?_, ⟨fun k hk => ?_, ?_, ?_, ?_, ?_, ⟨x6, ?_, ?_, ?_⟩, N', ?_⟩, ?_, ⟨?_, fun j hj => ?_, fun i hi => ?_⟩, ?_⟩
  · rw [c_prep hS hT ecn' hcn]
    (try dsimp only)
    rw [← hu0, e1, ob_i]
    (try dsimp only)
    rw [hv1]
    unfold g_X7_step_j121
    rw [lt1_i, sF_y, hv2, x1, ob_i]
  · rw [ePm, x3 (o + 2) (by omega), x3 (o + 3) (by omega), x3 (o + 4) (by omega), x3 (o + 5) (by omega), AU (o + 2) (by omega), AU (o + 3) (by omega), AU (o + 4) (by omega), AU (o + 5) (by omega), s2 (o + 2) (by omega), s2 (o + 3) (by omega), s2 (o + 4) (by omega), s2 (o + 5) (by omega)]
    exact r1 k hk
  · rw [g2, g4]
    exact LG_f s4 ((x4 _ (by omega) (by omega)).trans (FU _ (by omega))) (fun j j1 j2 => (x3 j (by omega)).trans (AU j (by omega)))
  · have hC3 : rF V3 (o + 24) 3 = rF u' (o + 24) 3 := (x4 _ (by omega) (by omega)).trans (FU _ (by omega))
    have hA3 : ∀ j, o + 25 ≤ j → j ≤ o + 27 → V3.2.1 j = u'.2.1 j := fun j j1 j2 => (x3 j (by omega)).trans (AU j (by omega))
    unfold CG
    rw [hC3, hA3 (o + 25) (by omega) (by omega), hA3 (o + 26) (by omega) (by omega), hA3 (o + 27) (by omega) (by omega)]
    rcases g11 with ⟨b1, b2, b3, b4, b5, b6⟩ | ⟨b1, b2, b3⟩
    · rcases s8 with ⟨-, y⟩ | ⟨y, -⟩
      · obtain ⟨k1, k2, k3⟩ := caddS_25 (u := u0) (q := o + 24) (C := Cr um 4) (t := nI (Tr um 4)) (p := z.1 120) (d := nI d)
        rw [y, b2]
        refine ⟨sF_y, fun i hi => ?_⟩
        rw [show o + 25 = o + 24 + 1 from rfl, show o + 26 = o + 24 + 2 from rfl, show o + 27 = o + 24 + 3 from rfl, k1, k2, k3]
        by_cases q : i = Cr um 4
        · subst q
          rw [pk_us, pk_us, pk_us, show 100 * 4 + Cr um 4 = 400 + Cr um 4 from rfl, b4, b5, b6]
          dsimp only
          rw [pk_un (by decide), ← eT, ed']
          exact ⟨rfl, rfl, rfl⟩
        · rw [pk_un q, pk_un q, pk_un q, show 100 * 4 + i = 400 + i from rfl, b3 16 i (by omega) (by omega) (by omega), b3 17 i (by omega) (by omega) (by omega), b3 18 i (by omega) (by omega) (by omega), a0 _ (by omega), a0 _ (by omega), a0 _ (by omega)]
          exact r3.2 i (by omega)
      · exact absurd b1 y
    · rcases s8 with ⟨y, -⟩ | ⟨-, y1, y2⟩
      · exact absurd y b1
      · rw [y1, b2, y2 (o + 25) (by omega) (by omega), y2 (o + 26) (by omega) (by omega), y2 (o + 27) (by omega) (by omega), b3 16 (by omega) (by omega), b3 17 (by omega) (by omega), b3 18 (by omega) (by omega)]
        exact r3
  · rw [eU, eD]
    exact x5
  · unfold HB
    rw [g3, eU, eD]
    exact hHB
  · rw [g3, g14]
    dsimp only
    rw [pk_un (by decide), ← w3]
    exact (x4 _ (by omega) (by omega)).trans (f2 _ (by omega))
  · intro hb
    rw [g9 25 (by omega), ← r8 hb]
    exact (x4 _ (by omega) (by omega)).trans (FF _ (by omega) (by omega) (by omega) (by omega) (by omega) (by omega) (by omega))
  · rw [g9 27 (by omega), ← r9]
    exact (x4 _ (by omega) (by omega)).trans (FF _ (by omega) (by omega) (by omega) (by omega) (by omega) (by omega) (by omega))
  · rw [g3]
    have hS3 : RunS V3 o (Tr um 4 + 1) N' (Rx (fun t => (rpm um 4 t).1) (Tr um 4) (upd z.1 133 (z.1 133 + 1))) (fun t => (rpm um' 4 t).2) := by
      obtain ⟨b1, b2, b3, b4, b5⟩ := hS2
      refine ⟨(x4 _ (by omega) (by omega)).trans b1, b2, fun t ht => SI_c (b3 t ht) (fun s _ => by rw [x3 (o + 30) (by omega)]) (by rw [x3 (o + 31) (by omega)]) (by rw [x3 (o + 32) (by omega)]) (by rw [x3 (o + 33) (by omega)]) (fun _ _ => rfl), PI_c b4 (x4 _ (by omega) (by omega)) (fun j j1 j2 => x3 j (by omega)) (x3 _ (by omega)), fun t ht => ?_⟩
      rw [x3 (o + 13) (by omega)]
      exact ⟨PRow_c (b5 t ht).1 (fun j j1 j2 => x3 j (by omega)), (b5 t ht).2⟩
    refine RunS_c hS3 (fun t ht => ?_) (fun _ _ => rfl)
    rcases Nat.lt_or_ge (Tr um 4) t with y | y
    · rw [Rx_gt y, show t = Tr um 4 + 1 by omega, g14]
    · rw [Rx_le y, g13 t y]
  · refine ⟨A', ⟨?_, ?_, s5.2.2⟩, fun i hi => ?_, ?_⟩
    · exact (x4 _ (by omega) (by omega)).trans ((FU _ (by omega)).trans s5.1)
    · exact (x4 _ (by omega) (by omega)).trans ((FU _ (by omega)).trans s5.2.1)
    · unfold wt9
      rw [x3 7 (by omega), AU 7 (by omega), g5]
      exact s6 i hi
    · rw [g7, ← s7]
      exact (x4 _ (by omega) (by omega)).trans (FU _ (by omega))
  · rw [x2, V2, c2.1, s1]
  · rw [x3 j (by omega), AU j (by omega), s2 j (by omega)]
  · rw [x4 i (by omega) (by omega)]
    rcases Nat.lt_or_ge i 601 with y | y
    · exact FF i (by omega) (by omega) (by omega) (by omega) (by omega) (by omega) (by omega)
    · exact FF i (by omega) (by omega) (by omega) (by omega) (by omega) (by omega) (by omega)
  · have e11 : rF V3 o 11 = rF vv o 11 := (x4 _ (by omega) (by omega)).trans ((f2 _ (by omega)).trans (w2 _ (by omega)))
    rw [g1]
    dsimp only
    unfold CHG at c5 ⊢
    rw [e11]
    have em : ∀ p, p < 40 → (upd z.1 133 (z.1 133 + 1)) (80 + p) = z.1 (80 + p) := fun p hp => pk_un (by omega)
    have em0 : ∀ p, p < 40 → (upd (rpm um 4 (Tr um 4)).1 120 (imin 64 ((rpm um 4 (Tr um 4)).1 120 + 1))) (80 + p) = um.2.1 28 (80 + p) := fun p hp => by rw [pk_un (by omega), eT]
    rcases c5 with ⟨y1, y2⟩ | ⟨p, y1, y2, y3, y4⟩
    · exact Or.inl ⟨y1, fun p hp => by rw [em p hp, ← em0 p hp]; exact y2 p hp⟩
    · exact Or.inr ⟨p, y1, y2, by rw [em p y1, ← em0 p y1]; exact y3, fun p' h1' h2' => by rw [em p' h1', ← em0 p' h1']; exact y4 p' h1' h2'⟩
end XV
end W_69
section W_70
-- 97zze.poke
/-! the class and the reference: poke on both sides -/
section XW
variable {pB : Prop} {F o T N K W p : Nat} {R R' : Nat → Row} {l l' : Nat → Nat} {u u' uc um : rg_U} {s num : Int32}
theorem SI_hi {t : Nat} (h : SI u o R t) (hR : ∀ s, s ≤ t → ∀ k, 120 ≤ k → k < 132 → R' s k = R s k) : SI u o R' t := by
  obtain ⟨h1, h2, h3, d, k1, k2, k3, k4⟩ := h
  have e := hR t (Nat.le_refl _)
  refine ⟨by rw [e 120 (by omega) (by omega)]; exact h1, by rw [e 130 (by omega) (by omega)]; exact h2, by rw [e 131 (by omega) (by omega)]; exact h3, d, k1, by rw [e 121 (by omega) (by omega)]; exact k2, k3, fun f hf => ?_⟩
  obtain ⟨s, b1, b2, b3, b4, b5⟩ := k4 f hf
  exact ⟨s, b1, b2, by rw [e (122 + f) (by omega) (by omega)]; exact b3, by rw [hR s (by omega) 121 (by omega) (by omega)]; exact b4, fun i hi => by rw [hR s (by omega) (122 + i) (by omega) (by omega), e (122 + i) (by omega) (by omega)]; exact b5 i hi⟩
/-- a poke in the table of puts -/
theorem RunS_poke {e : Int32} (h : RunS u o T N R l) (hN : N < 3800) (hp : p < 40) (hR : ∀ t, t < T → R' t = R t) (hRT : R' T = mput (R T) p s num) (hl : ∀ t, t < T → l' t = l t) (hlT : N + 1 ≤ T + l' T) : RunS (restS (addS u (o + 12) N p (nI T) s num (vS (u.2.1 (o + 12 + 5)) 0 (u.2.1 (o + 12 + 11) p) + (if sameV u (o + 12) (u.2.1 (o + 12 + 11) p) s num then 0 else 1)) (u.2.1 (o + 12 + 11) p)) (o + 12) N (-1) e (-1) (-1)) o T (N + 1) R' l' := by
  obtain ⟨h1, h2, h3, h4, h5⟩ := h
  generalize hch : (vS (u.2.1 (o + 12 + 5)) 0 (u.2.1 (o + 12 + 11) p) + (if sameV u (o + 12) (u.2.1 (o + 12 + 11) p) s num then 0 else 1)) = ch
  have hPI := PI_add (s := s) (n := num) h4 hN hp (Nat.le_refl _) h2
  have hPN := (h5 T (Nat.le_refl _)).1
  rw [show o + 13 = o + 12 + 1 from rfl, PI_all h4] at hPN
  have hnew := PRow_new (x := nI T) (s := s) (n := num) (h4.2.2.2.2.1 p hp) hPN (by omega) hp
  rw [hch] at hPI hnew
  generalize hold : u.2.1 (o + 12 + 11) p = old at hPI hnew ⊢
  have hA : ∀ j, (j < o + 19 ∨ o + 22 < j) → (restS (addS u (o + 12) N p (nI T) s num ch old) (o + 12) N (-1) e (-1) (-1)).2.1 j = (addS u (o + 12) N p (nI T) s num ch old).2.1 j := fun j hj => restS_n (by omega)
  refine ⟨?_, h2, fun t ht => ?_, PI_c hPI (congrFun restS_f _) (fun j j1 j2 => hA j (by omega)) (hA _ (by omega)), fun t ht => ?_⟩
  · show (addS u (o + 12) N p (nI T) s num ch old).1 (100 * o + 9) = _
    rw [addS_f (by omega)]
    exact h1
  · have h0 : SI u o R' t := SI_hi (h3 t ht) (fun s' hs' k k1 k2 => by
      rcases Nat.lt_or_ge s' T with y | y
      · rw [hR s' y]
      · rw [show s' = T by omega, hRT, mput_h2 hp k1])
    exact SI_c h0 (fun s' _ => by rw [hA _ (by omega), addS_n (by omega)]) (by rw [hA _ (by omega), addS_n (by omega)]) (by rw [hA _ (by omega), addS_n (by omega)]) (by rw [hA _ (by omega), addS_n (by omega)]) (fun _ _ => rfl)
  · rw [hA (o + 13) (by omega)]
    rcases Nat.lt_or_ge t T with y | y
    · rw [show o + 13 = o + 12 + 1 from rfl, cP_add y (by omega), hR t y, hl t y]
      exact ⟨PRow_c (PRow_add (h5 t ht).1 (cP_le N) (by omega)) (fun j j1 j2 => hA j (by omega)), (h5 t ht).2⟩
    · have et : t = T := by omega
      subst et
      rw [show o + 13 = o + 12 + 1 from rfl, cP_addT (Nat.le_refl _) (by omega), hRT]
      exact ⟨PRow_c hnew (fun j j1 j2 => hA j (by omega)), hlT⟩
theorem RR_poke (hm : okM um K W) (h1 : um.2.1 5 4 = 1) (hn : nr um 4 < 800) (hp : p < 40) (hR : RR pB uc um o 4) (ho : 116 ≤ o) : ∃ uc', g_X7_putByPoke F o (nI p) s num uc = some ((if um.2.1 28 p = s ∧ um.2.1 28 (40 + p) = num then 0 else 1), uc') ∧ RR pB uc' (pokeS um (nr um 4) p s num) o 4 ∧ FX uc uc' o ∧ uc'.1 601 = uc.1 601 ∧ uc'.1 602 = uc.1 602 ∧ uc'.1 603 = uc.1 603 := by
  have hc := hm.1
  have hro := hc.2.2.2.2.1 4 (Or.inr ⟨rfl, h1⟩)
  have hlive := hc.2.2.2.2.2.1 h1
  obtain ⟨q1, q2, q3, q4, q5, ⟨hU, hU2, hD, hD2⟩, hw, hH, hCk⟩ := id hro
  have hT3 := hw.1.2.2.2.1
  obtain ⟨r1, r2, r3, r4, r5, ⟨r6, r7, r8, r9⟩, N, hS⟩ := hR
  have el : (rpm um 4 (Tr um 4)).2 = nr um 4 := hw.2.2.1
  have hN : N ≤ Tr um 4 + nr um 4 := by
    have := (hS.2.2.2.2 (Tr um 4) (Nat.le_refl _)).2
    rw [show o + 13 = o + 12 + 1 from rfl, PI_all hS.2.2.2.1] at this
    dsimp only at this
    omega
  -- the reference's side
  have hA : ∀ j, j ≠ 28 → (pokeS um (nr um 4) p s num).2.1 j = (ntS um (nr um 4) 2 num (nI p) s).2.1 j := fun j hj => pm_up_n hj
  have hB : ∀ j, (j < 10 ∨ 15 < j) → j ≠ 28 → (pokeS um (nr um 4) p s num).2.1 j = um.2.1 j := fun j hj h28 => (hA j h28).trans (ntS_n hj)
  obtain ⟨l1, l2, l3, l4, l5, l6⟩ := ntS_Lm (u := um) (n := nr um 4) (s := 2) (num := num) (pl := nI p) (v := s) hn
  have eL : Lm (pokeS um (nr um 4) p s num) 4 = Lm (ntS um (nr um 4) 2 num (nI p) s) 4 := by
    unfold Lm
    rw [hA 10 (by decide), hA 11 (by decide), hA 12 (by decide), hA 13 (by decide), hA 14 (by decide)]
  have eP : Pm (pokeS um (nr um 4) p s num) 4 = Pm um 4 := by
    unfold Pm
    rw [hB 6 (by decide) (by decide), hB 7 (by decide) (by decide), hB 8 (by decide) (by decide), hB 9 (by decide) (by decide)]
  have eH : Hm (pokeS um (nr um 4) p s num) 4 = Hm um 4 := by
    unfold Hm
    rw [hB 20 (by decide) (by decide)]
  have en : nr (pokeS um (nr um 4) p s num) 4 = nr um 4 + 1 := by
    show tn ((pokeS um (nr um 4) p s num).2.1 15 4) = _
    rw [hA 15 (by decide), ntS_at, if_pos ⟨rfl, rfl⟩, tnn (by omega)]
  have eT : Tr (pokeS um (nr um 4) p s num) 4 = Tr um 4 := by
    unfold Tr
    rw [hB 21 (by decide) (by decide)]
  have eU : Ur (pokeS um (nr um 4) p s num) 4 = Ur um 4 := by
    unfold Ur
    rw [hB 23 (by decide) (by decide)]
  have eD : Dr (pokeS um (nr um 4) p s num) 4 = Dr um 4 := by
    unfold Dr
    rw [hB 24 (by decide) (by decide)]
  have eC : Cr (pokeS um (nr um 4) p s num) 4 = Cr um 4 := by
    unfold Cr
    rw [hB 19 (by decide) (by decide)]
  obtain ⟨y1, y2⟩ := poke_rp hw l1 l3 (l2.trans q2)
  have eR : ∀ t, rpm (pokeS um (nr um 4) p s num) 4 t = rp (Pm um 4) (Lm (ntS um (nr um 4) 2 num (nI p) s) 4) (nr um 4 + 1) t := fun t => by
    unfold rpm
    rw [eP, eL, en]
  have eR1 : ∀ t, t < Tr um 4 → rpm (pokeS um (nr um 4) p s num) 4 t = rpm um 4 t := fun t ht => (eR t).trans (y1 t ht)
  have eRT : rpm (pokeS um (nr um 4) p s num) 4 (Tr um 4) = (mput (rpm um 4 (Tr um 4)).1 p s num, nr um 4 + 1) := by
    rw [eR, y2, l4, l5, l6, tnn (by omega)]
    rfl
  -- the class's side
  have hu1 : RunS (laddS uc (o + 6) (nr um 4) (nI (Tr um 4)) 2 (nI p) s num) o (Tr um 4) N (fun t => (rpm um 4 t).1) (fun t => (rpm um 4 t).2) := by
    obtain ⟨b1, b2, b3, b4, b5⟩ := hS
    refine ⟨(laddS_f (by omega)).trans b1, b2, fun t ht => SI_c (b3 t ht) (fun s' _ => by rw [laddS_n (by omega)]) (by rw [laddS_n (by omega)]) (by rw [laddS_n (by omega)]) (by rw [laddS_n (by omega)]) (fun _ _ => rfl), PI_c b4 (laddS_f (by omega)) (fun j j1 j2 => laddS_n (by omega)) (laddS_n (by omega)), fun t ht => ?_⟩
    rw [laddS_n (show o + 13 < o + 6 + 1 ∨ o + 6 + 5 < o + 13 by omega)]
    exact ⟨PRow_c (b5 t ht).1 (fun j j1 j2 => laddS_n (by omega)), (b5 t ht).2⟩
  have hl1 : LG (laddS uc (o + 6) (nr um 4) (nI (Tr um 4)) 2 (nI p) s num) o (nr um 4 + 1) (Lm (ntS um (nr um 4) 2 num (nI p) s) 4) := LG_add r2 l1 ⟨l2.trans q2, l3, l4, l5, l6⟩
  have hf1 : ∀ i, i ≠ 100 * (o + 6) + 5 → (laddS uc (o + 6) (nr um 4) (nI (Tr um 4)) 2 (nI p) s num).1 i = uc.1 i := fun i hi => laddS_f hi
  have ha1 : ∀ j, (j < o + 7 ∨ o + 11 < j) → (laddS uc (o + 6) (nr um 4) (nI (Tr um 4)) 2 (nI p) s num).2.1 j = uc.2.1 j := fun j hj => laddS_n (by omega)
  have hL5 : rF (laddS uc (o + 6) (nr um 4) (nI (Tr um 4)) 2 (nI p) s num) (o + 6) 5 = nI (nr um 4 + 1) := laddS_N
  have hg1 : (laddS uc (o + 6) (nr um 4) (nI (Tr um 4)) 2 (nI p) s num).2.2 = uc.2.2 := rfl
  unfold g_X7_putByPoke g_X3_addPoke
  rw [hS.1, c_logadd r2.1 hn, ob_i, ob_i, show sF (rg_R (rg_R (rg_R (rg_R (rg_R uc (o + 6 + 1) (nr um 4) (nI (Tr um 4))) (o + 6 + 2) (nr um 4) 2) (o + 6 + 4) (nr um 4) (nI p)) (o + 6 + 5) (nr um 4) s) (o + 6 + 3) (nr um 4) num) (o + 6) 5 (nI (nr um 4 + 1)) = laddS uc (o + 6) (nr um 4) (nI (Tr um 4)) 2 (nI p) s num from rfl]
  generalize laddS uc (o + 6) (nr um 4) (nI (Tr um 4)) 2 (nI p) s num = u1 at *
  have hPI := hu1.2.2.2.1
  have hlat : u1.2.1 (o + 12 + 11) p = lat (u1.2.1 (o + 12 + 2)) p N := hPI.2.2.2.2.1 p hp
  have hPN := (hu1.2.2.2.2 (Tr um 4) (Nat.le_refl _)).1
  rw [show o + 13 = o + 12 + 1 from rfl, PI_all hPI] at hPN
  have hsame : sameV u1 (o + 12) (u1.2.1 (o + 12 + 11) p) s num ↔ um.2.1 28 p = s ∧ um.2.1 28 (40 + p) = num := by
    unfold sameV
    rw [hlat, ← (hPN p hp).1, ← (hPN p hp).2.1, hlive]
  have h9 : rF u1 o 9 = nI (Tr um 4) := hu1.1
  rw [h9, c_add6 hPI.1 (by omega) hp (by rw [hlat]; exact lat_pt N), ob_i]
  dsimp only
  have hrun := RunS_poke (e := nI (nr um 4)) (R' := fun t => (rpm (pokeS um (nr um 4) p s num) 4 t).1) (l' := fun t => (rpm (pokeS um (nr um 4) p s num) 4 t).2) (s := s) (num := num) hu1 (by omega) hp (fun t ht => by rw [eR1 t ht]) (by rw [eRT]) (fun t ht => by rw [eR1 t ht]) (by rw [eRT]; dsimp only; omega)
  have haN : ∀ {ch old : Int32}, rF (addS u1 (o + 12) N p (nI (Tr um 4)) s num ch old) (o + 6) 5 = nI (nr um 4 + 1) := fun {ch old} => (addS_f (by omega)).trans hL5
  rw [haN, nI_pred, c_rest addS_N (by omega), ob_i]
  have hck : (if sameV u1 (o + 12) (u1.2.1 (o + 12 + 11) p) s num then (0 : Int32) else 1) = 0 ∨ (if sameV u1 (o + 12) (u1.2.1 (o + 12 + 11) p) s num then (0 : Int32) else 1) = 1 := it_b (Or.inl rfl) (Or.inr rfl)
  rw [ck_t hck]
  have eans : (if sameV u1 (o + 12) (u1.2.1 (o + 12 + 11) p) s num then (0 : Int32) else 1) = (if um.2.1 28 p = s ∧ um.2.1 28 (40 + p) = num then 0 else 1) := by
    by_cases q : um.2.1 28 p = s ∧ um.2.1 28 (40 + p) = num
    · rw [if_pos q, if_pos (hsame.mpr q)]
    · rw [if_neg q, if_neg (fun z => q (hsame.mp z))]
  generalize hch : (vS (u1.2.1 (o + 12 + 5)) 0 (u1.2.1 (o + 12 + 11) p) + (if sameV u1 (o + 12) (u1.2.1 (o + 12 + 11) p) s num then 0 else 1)) = ch at *
  generalize hold : u1.2.1 (o + 12 + 11) p = old at *
  rw [eans]
  have FF : ∀ i, i ≠ 100 * (o + 12) + 11 → (restS (addS u1 (o + 12) N p (nI (Tr um 4)) s num ch old) (o + 12) N (-1) (nI (nr um 4)) (-1) (-1)).1 i = u1.1 i := fun i hi => addS_f hi
  have AA : ∀ j, (j < o + 13 ∨ o + 23 < j) → (restS (addS u1 (o + 12) N p (nI (Tr um 4)) s num ch old) (o + 12) N (-1) (nI (nr um 4)) (-1) (-1)).2.1 j = u1.2.1 j := fun j hj => by rw [restS_n (by omega), addS_n (by omega)]
  have GG : (restS (addS u1 (o + 12) N p (nI (Tr um 4)) s num ch old) (o + 12) N (-1) (nI (nr um 4)) (-1) (-1)).2.2 = u1.2.2 := rfl
  generalize restS (addS u1 (o + 12) N p (nI (Tr um 4)) s num ch old) (o + 12) N (-1) (nI (nr um 4)) (-1) (-1) = u2 at *
  refine ⟨u2, rfl, ⟨?_, ?_, ?_, ?_, ?_, ⟨?_, ?_, ?_, ?_⟩, N + 1, by rw [eT]; exact hrun⟩, ⟨GG.trans hg1, fun j hj => (AA j (by omega)).trans (ha1 j (by omega)), fun i hi => (FF i (by omega)).trans (hf1 i (by omega))⟩, (FF _ (by omega)).trans (hf1 _ (by omega)), (FF _ (by omega)).trans (hf1 _ (by omega)), (FF _ (by omega)).trans (hf1 _ (by omega))⟩
  · rw [eP]
    intro k hk
    rw [AA (o + 2) (by omega), AA (o + 3) (by omega), AA (o + 4) (by omega), AA (o + 5) (by omega), ha1 (o + 2) (by omega), ha1 (o + 3) (by omega), ha1 (o + 4) (by omega), ha1 (o + 5) (by omega)]
    exact r1 k hk
  · rw [en, eL]
    exact LG_f hl1 (FF _ (by omega)) (fun j j1 j2 => AA j (by omega))
  · unfold CG
    rw [eC, hB 16 (by decide) (by decide), hB 17 (by decide) (by decide), hB 18 (by decide) (by decide), AA (o + 25) (by omega), AA (o + 26) (by omega), AA (o + 27) (by omega), ha1 (o + 25) (by omega), ha1 (o + 26) (by omega), ha1 (o + 27) (by omega)]
    exact ⟨(FF _ (by omega)).trans ((hf1 _ (by omega)).trans r3.1), r3.2⟩
  · rw [eH, eU, eD]
    exact HI_c r4 ((FF _ (by omega)).trans (hf1 _ (by omega))) ((FF _ (by omega)).trans (hf1 _ (by omega))) ((FF _ (by omega)).trans (hf1 _ (by omega))) ((AA _ (by omega)).trans (ha1 _ (by omega)))
  · unfold HB
    rw [eH, eU, eD, eT]
    exact r5
  · rw [hB 26 (by decide) (by decide)]
    exact (FF _ (by omega)).trans ((hf1 _ (by omega)).trans r6)
  · rw [eT, eRT]
    dsimp only
    rw [mput_h2 hp (by omega)]
    exact (FF _ (by omega)).trans ((hf1 _ (by omega)).trans r7)
  · intro hb
    rw [hB 25 (by decide) (by decide)]
    exact (FF _ (by omega)).trans ((hf1 _ (by omega)).trans (r8 hb))
  · rw [hB 27 (by decide) (by decide)]
    exact (FF _ (by omega)).trans ((hf1 _ (by omega)).trans r9)
end XW
end W_70
section W_71
-- 97zzf.back
/-! the class: back, its log and its calls -/
theorem cI_y {L : Lg} {k : Nat} (h : L.2.1 k = 0) : cI L (k + 1) = cI L k + 1 := by
  show cI L k + (if L.2.1 k = 0 then 1 else 0) = _
  rw [if_pos h]
theorem cI_n {L : Lg} {k : Nat} (h : ¬ L.2.1 k = 0) : cI L (k + 1) = cI L k := by
  show cI L k + (if L.2.1 k = 0 then 1 else 0) = _
  rw [if_neg h, Nat.add_zero]
theorem cI_up {L : Lg} {M : Nat} : ∀ n, M ≤ n → cI L M ≤ cI L n
  | 0, h => by rw [show M = 0 by omega]; exact Nat.le_refl _
  | n + 1, h => by
    rcases Nat.lt_or_ge n M with y | y
    · rw [show M = n + 1 by omega]; exact Nat.le_refl _
    · have := cI_up (L := L) n y
      by_cases q : L.2.1 n = 0
      · rw [cI_y q]; omega
      · rw [cI_n q]; exact this
section XX
variable {F o n T t W A0 : Nat} {L : Lg} {u : rg_U} {q : Nat → Nat}
theorem x3_has {i : Nat} (hn : rF u o 5 = nI n) (h8 : n ≤ 800) (hi : i < n) : g_X3_has F o (nI i) u = some 1 := by
  unfold g_X3_has
  rw [if_neg (nI_pos (by omega)), hn, if_neg (nI_ge hi (by omega)), if_neg (show ¬ (800 : Int32) ≤ nI i from nI_ge (a := i) (b := 800) (by omega) (by decide))]
theorem x3_behind {i : Nat} {g s : Int32} {q : Nat} (hn : rF u o 5 = nI n) (h8 : n ≤ 800) (hi : i < n) (e1 : u.2.1 (o + 1) i = nI q) (e2 : u.2.1 (o + 2) i = g) (hq : q < 2 ^ 31) (ht : t < 2 ^ 31) : g_X3_isBehind F o (nI i) (nI t) u = some (if q < t + (if g = 2 then 1 else 0) then 0 else 1) := by
  unfold g_X3_isBehind
  rw [x3_has hn h8 hi, ob_i, if_neg (by decide), ck_t (inb_nI (by omega) (by decide)), rA_nI (by omega), rA_nI (by omega), e1, e2]
  by_cases z : g = 2
  · rw [if_pos z, if_pos z, ck_t (inb_nI (by omega) (by decide))]
    by_cases y : q ≤ t
    · rw [if_pos (nI_le y ht), if_pos (by omega)]
    · rw [if_neg (nI_ge (by omega) hq), if_neg (by omega)]
  · rw [if_neg z, if_neg z, ck_t (inb_nI (by omega) (by decide))]
    by_cases y : q < t
    · rw [if_pos (nI_lt y ht), if_pos (by omega)]
    · rw [if_neg (nI_nlt (by omega) hq), if_neg (by omega)]
/-- the log goes back to its first M0 entries; inputs wait again -/
theorem c_dropLog {M0 : Nat} (hL : LG u o n L) (h8 : n ≤ 800) (hM : M0 ≤ n) (ho : 116 ≤ o) (hq : ∀ k, k < n → ∃ q, q < 2 ^ 31 ∧ L.1 k = nI q ∧ (k < M0 ↔ q < t + (if L.2.1 k = 2 then 1 else 0))) (ht : t < 2 ^ 31) (hO : okO9 u A0 W) (hW : W + cI L n ≤ 900) (hF : 10000 < F) : ∃ w A, g_X3_dropBehind F (o + 6) (nI t) u = some w ∧ w.2.2 = u.2.2 ∧ (∀ j, j ≠ 7 → w.2.1 j = u.2.1 j) ∧ (∀ k, k ≠ 601 → k ≠ 602 → k ≠ 100 * (o + 6) + 5 → w.1 k = u.1 k) ∧ rF w (o + 6) 5 = nI M0 ∧ okO9 w A (W + (cI L n - cI L M0)) ∧ (∀ i, i < W → wt9 w A (i + (cI L n - cI L M0)) = wt9 u A0 i) ∧ ∀ k, M0 ≤ k → k < n → L.2.1 k = 0 → wt9 w A (cI L k - cI L M0) = L.2.2.1 k := by
  have key : Tt (g_X3_dropBehind F (o + 6) (nI t) u) (fun w => ∃ A, w.2.2 = u.2.2 ∧ (∀ j, j ≠ 7 → w.2.1 j = u.2.1 j) ∧ (∀ k, k ≠ 601 → k ≠ 602 → k ≠ 100 * (o + 6) + 5 → w.1 k = u.1 k) ∧ rF w (o + 6) 5 = nI M0 ∧ okO9 w A (W + (cI L n - cI L M0)) ∧ (∀ i, i < W → wt9 w A (i + (cI L n - cI L M0)) = wt9 u A0 i) ∧ ∀ k, M0 ≤ k → k < n → L.2.1 k = 0 → wt9 w A (cI L k - cI L M0) = L.2.2.1 k) := by
    unfold g_X3_dropBehind
    rw [hL.1]
    refine tt_b (tt_lp (I := fun s => ∃ M A, M0 ≤ M ∧ M ≤ n ∧ s.1 = nI M - 1 ∧ s.2.2.2 = u.2.2 ∧ (∀ j, j ≠ 7 → s.2.2.1 j = u.2.1 j) ∧ (∀ k, k ≠ 601 → k ≠ 602 → k ≠ 100 * (o + 6) + 5 → s.2.1 k = u.1 k) ∧ rF s.2 (o + 6) 5 = nI M ∧ okO9 s.2 A (W + (cI L n - cI L M)) ∧ (∀ i, i < W → wt9 s.2 A (i + (cI L n - cI L M)) = wt9 u A0 i) ∧ ∀ k, M ≤ k → k < n → L.2.1 k = 0 → wt9 s.2 A (cI L k - cI L M) = L.2.2.1 k) (m := fun s => (s.1.toInt + 1).toNat) (P := fun w => ∃ A, w.2.2 = u.2.2 ∧ (∀ j, j ≠ 7 → w.2.1 j = u.2.1 j) ∧ (∀ k, k ≠ 601 → k ≠ 602 → k ≠ 100 * (o + 6) + 5 → w.1 k = u.1 k) ∧ rF w (o + 6) 5 = nI M0 ∧ okO9 w A (W + (cI L n - cI L M0)) ∧ (∀ i, i < W → wt9 w A (i + (cI L n - cI L M0)) = wt9 u A0 i) ∧ ∀ k, M0 ≤ k → k < n → L.2.1 k = 0 → wt9 w A (cI L k - cI L M0) = L.2.2.1 k) ?_ F _ ?_ ?_) (fun _ z => z)
    · rintro ⟨a, w⟩ ⟨M, A, h1, h2, h3, h4, h5, h6, h7, h9, h10, h11⟩
      dsimp only at h3 h4 h5 h6 h7 h9 h10 h11 ⊢
      unfold g_X3_dropBehind_l7 g_X3_dropBehind_j39
      cases M with
      | zero =>
        have e0 : M0 = 0 := by omega
        subst e0
        rw [if_pos (by rw [h3]; decide)]
        exact tt_r ⟨A, h4, h5, h6, h7, h9, h10, h11⟩
      | succ M =>
        have e1 : a = nI M := by rw [h3]; exact nI_pred M
        subst e1
        obtain ⟨q, hq1, hq2, hq3⟩ := hq M (by omega)
        obtain ⟨g1, g2, g3, -, -⟩ := hL.2 M (by omega)
        have ea : ∀ j, o + 7 ≤ j → w.2.1 j = u.2.1 j := fun j hj => h5 j (by omega)
        rw [if_neg (nI_pos (by omega)), x3_behind (g := L.2.1 M) (q := q) (s := 0) h7 (by omega) (by omega) (by rw [show o + 6 + 1 = o + 7 from rfl, ea _ (by omega), g1, hq2]) (by rw [show o + 6 + 2 = o + 8 from rfl, ea _ (by omega), g2]) hq1 ht, ob_i]
        by_cases z : M < M0
        · have em : M0 = M + 1 := by omega
          subst em
          rw [if_pos (hq3.mp z), if_pos rfl]
          exact tt_r ⟨A, h4, h5, h6, h7, h9, h10, h11⟩
        · rw [if_neg (fun y => z (hq3.mpr y)), if_neg (by decide), ck_t (inb_nI (by omega) (by decide)), rA_nI (by omega), show o + 6 + 2 = o + 8 from rfl, ea (o + 8) (by omega), g2]
          by_cases y : L.2.1 M = 0
          · have hcm := cI_y y
            have hup := cI_up (L := L) (M := M + 1) n (by omega)
            have hup0 := cI_up (L := L) (M := M0) M (by omega)
            rw [if_pos y, ck_t (inb_nI (by omega) (by decide)), rA_nI (by omega), show o + 6 + 3 = o + 9 from rfl, ea (o + 9) (by omega), g3]
            obtain ⟨w', e2, w1, w2, w3, w4⟩ := c_addFirst (F := F) (x := L.2.2.1 M) h9 (by omega)
            rw [e2, ob_i, lt1_i]
            refine tt_l ⟨⟨M, (A + 899) % 900, by omega, by omega, ?_, ?_, fun j hj => ?_, fun k k1 k2 k3 => ?_, sF_y, ⟨?_, ?_, w1.2.2.1, by omega⟩, fun i hi => ?_, fun k k1 k2 k3 => ?_⟩, ms_d1 (by omega)⟩
            · dsimp only
              rw [Int32.sub_eq_add_neg]
            · rw [w4]; exact h4
            · rw [sF_A, w4]
              show (rg_R (sF w 6 1 _) 7 _ _).2.1 j = _
              rw [R_n hj]
              exact h5 j hj
            · rw [sF_n k3, w4, sF_n (by omega)]
              show (sF w 6 1 _).1 k = _
              rw [sF_n (by omega)]
              exact h6 k k1 k2 k3
            · show (sF w' (o + 6) 5 (nI M)).1 (100 * 6 + 1) = _
              rw [sF_n (by omega)]
              exact w1.1
            · show (sF w' (o + 6) 5 (nI M)).1 (100 * 6 + 2) = _
              rw [sF_n (by omega), show W + (cI L n - cI L M) = W + (cI L n - cI L (M + 1)) + 1 by omega]
              exact w1.2.1
            · show wt9 w' ((A + 899) % 900) (i + (cI L n - cI L M)) = _
              rw [show i + (cI L n - cI L M) = i + (cI L n - cI L (M + 1)) + 1 by omega, w3 _ (by omega)]
              exact h10 i hi
            · show wt9 w' ((A + 899) % 900) (cI L k - cI L M) = _
              rcases Nat.lt_or_ge M k with x | x
              · have hk1 := cI_up (L := L) (M := M + 1) k (by omega)
                have hk2 := cI_up (L := L) (M := k + 1) n (by omega)
                have hk3 := cI_y k3
                rw [show cI L k - cI L M = (cI L k - cI L (M + 1)) + 1 by omega, w3 _ (by omega)]
                exact h11 k (by omega) k2 k3
              · rw [show k = M by omega, Nat.sub_self]
                exact w2
          · have hcm := cI_n y
            rw [if_neg y, lt1_i]
            rw [hcm] at h9 h10 h11
            refine tt_l ⟨⟨M, A, by omega, by omega, ?_, h4, fun j hj => h5 j hj, fun k k1 k2 k3 => ?_, sF_y, ⟨?_, ?_, h9.2.2⟩, h10, fun k k1 k2 k3 => ?_⟩, ms_d1 (by omega)⟩
            · dsimp only
              rw [Int32.sub_eq_add_neg]
            · rw [sF_n k3]; exact h6 k k1 k2 k3
            · show (sF w (o + 6) 5 (nI M)).1 (100 * 6 + 1) = _
              rw [sF_n (by omega)]
              exact h9.1
            · show (sF w (o + 6) 5 (nI M)).1 (100 * 6 + 2) = _
              rw [sF_n (by omega)]
              exact h9.2.1
            · rcases Nat.lt_or_ge M k with x | x
              · exact h11 k (by omega) k2 k3
              · rw [show k = M by omega] at k3
                exact absurd k3 y
    · exact ms_i (by omega) (by omega)
    · exact ⟨n, A0, hM, Nat.le_refl _, rfl, rfl, fun _ _ => rfl, fun _ _ _ _ => rfl, hL.1, by rw [Nat.sub_self]; exact hO, fun i hi => by rw [Nat.sub_self]; rfl, fun k k1 k2 => by omega⟩
  obtain ⟨w, e, A, r⟩ := key
  exact ⟨w, A, e, r⟩
/-- calls from t on go -/
theorem c_dropFrom {C : Nat} {ct : Nat → Nat} (hC : rF u o 3 = nI C) (hC1 : C ≤ 100) (hct : ∀ i, i < C → u.2.1 (o + 1) i = nI (ct i) ∧ ct i < 2 ^ 31) (hup : ∀ i j, i < j → j < C → ct i < ct j) (ht : t < 2 ^ 31) (hF : 10000 < F) : ∃ w C1, g_X1_dropFrom F o (nI t) u = some w ∧ w.2 = u.2 ∧ (∀ k, k ≠ 100 * o + 3 → w.1 k = u.1 k) ∧ rF w o 3 = nI C1 ∧ C1 ≤ C ∧ (C1 = 0 ∨ ct (C1 - 1) < t) ∧ ∀ i, C1 ≤ i → i < C → t ≤ ct i := by
  have key : Tt (g_X1_dropFrom F o (nI t) u) (fun w => w.2 = u.2 ∧ (∀ k, k ≠ 100 * o + 3 → w.1 k = u.1 k) ∧ ∃ C1, rF w o 3 = nI C1 ∧ C1 ≤ C ∧ (C1 = 0 ∨ ct (C1 - 1) < t) ∧ ∀ i, C1 ≤ i → i < C → t ≤ ct i) := by
    unfold g_X1_dropFrom
    rw [hC]
    refine tt_b (tt_lp (I := fun s => s.2.2 = u.2 ∧ (∀ k, k ≠ 100 * o + 3 → s.2.1 k = u.1 k) ∧ ∃ M, M ≤ C ∧ s.1 = nI M - 1 ∧ rF s.2 o 3 = nI M ∧ ∀ i, M ≤ i → i < C → t ≤ ct i) (m := fun s => (s.1.toInt + 1).toNat) (P := fun w => w.2 = u.2 ∧ (∀ k, k ≠ 100 * o + 3 → w.1 k = u.1 k) ∧ ∃ C1, rF w o 3 = nI C1 ∧ C1 ≤ C ∧ (C1 = 0 ∨ ct (C1 - 1) < t) ∧ ∀ i, C1 ≤ i → i < C → t ≤ ct i) ?_ F _ ?_ ?_) (fun _ z => z)
    · rintro ⟨a, w⟩ ⟨h5, h6, M, h7, h8, h9, h10⟩
      dsimp only at h5 h6 h8 h9 ⊢
      unfold g_X1_dropFrom_l7
      cases M with
      | zero =>
        rw [if_pos (by rw [h8]; decide)]
        exact tt_r ⟨h5, h6, 0, h9, h7, Or.inl rfl, h10⟩
      | succ M =>
        have e1 : a = nI M := by rw [h8]; exact nI_pred M
        subst e1
        obtain ⟨c1, c2⟩ := hct M (by omega)
        have hhas : g_X1_has F o (nI M) w = some 1 := by
          unfold g_X1_has
          rw [if_neg (nI_pos (by omega)), h9, if_neg (nI_ge (by omega) (by omega)), if_neg (show ¬ (100 : Int32) ≤ nI M from nI_ge (a := M) (b := 100) (by omega) (by decide))]
        rw [if_neg (nI_pos (by omega)), hhas, ob_i, if_neg (by decide), ck_t (inb_nI (by omega) (by decide)), rA_nI (by omega), h5, c1]
        by_cases z : ct M < t
        · rw [if_pos (nI_lt z ht)]
          exact tt_r ⟨h5, h6, M + 1, h9, h7, Or.inr z, h10⟩
        · rw [if_neg (nI_nlt (by omega) c2), lt1_i]
          refine tt_l ⟨⟨h5, fun k hk => by rw [sF_n hk]; exact h6 k hk, M, by omega, ?_, sF_y, fun i i1 i2 => ?_⟩, ms_d1 (by omega)⟩
          · dsimp only
            rw [Int32.sub_eq_add_neg]
          · rcases Nat.lt_or_ge M i with y | y
            · exact h10 i (by omega) i2
            · rw [show i = M by omega]; omega
    · exact ms_i (by omega) (by omega)
    · exact ⟨rfl, fun _ _ => rfl, C, Nat.le_refl _, rfl, hC, fun i i1 i2 => by omega⟩
  obtain ⟨w, e, w1, w2, C1, w3⟩ := key
  exact ⟨w, C1, e, w1, w2, w3⟩
end XX
end W_71
