/-! the class and the reference: a step on both sides -/
section XS
variable {F o T N : Nat} {R : Nat → Row} {l l' : Nat → Nat} {u uc um : rg_U}
theorem RunS_end {m' : Row} (h : MD u o T N R l m') (hl : ∀ t, t ≤ T → l' t = l t) (hN : N ≤ T + 1 + l' (T + 1)) : RunS (sF u o 9 (nI (T + 1))) o (T + 1) N (Rx R T m') l' := by
  obtain ⟨h1, h2, h3, h4, h5, h6⟩ := h
  refine ⟨sF_y, by omega, h3, PI_c h4 (sF_n (by omega)) (fun _ _ _ => rfl) rfl, fun t ht => ?_⟩
  rw [sF_A]
  rcases Nat.lt_or_ge T t with y | y
  · have et : t = T + 1 := by omega
    subst et
    rw [Rx_gt y, show o + 13 = o + 12 + 1 from rfl, PI_all h4]
    exact ⟨PRow_c h5 (fun _ _ _ => rfl), hN⟩
  · rw [Rx_le y, hl t y]
    exact ⟨PRow_c (h6 t y).1 (fun _ _ _ => rfl), (h6 t y).2⟩
/-- what a step leaves of all else: arrays, fields -/
def FX (u v : rg_U) (o : Nat) : Prop := v.2.2 = u.2.2 ∧ (∀ j, (j < o + 6 ∨ o + 33 < j) → v.2.1 j = u.2.1 j) ∧ ∀ k, (k < 601 ∨ (603 < k ∧ k < 100 * o) ∨ 100 * (o + 34) ≤ k) → v.1 k = u.1 k
/-- the order of a step, with all that it wants of the run -/
theorem c_perform {P : Prg} {cn d C L A0 W : Nat} {num en : Int32} (h : RunS uc o T N R l) (hT : T < 3000) (hN : N < 3800) (ho : 116 ≤ o) (hP : PG uc o P) (hok : okP P) (hc : R T 120 = nI cn) (hcn : cn ≤ 64) (h10 : rF uc o 10 = R T 132) (hd : R T 121 = nI d) (d8 : d ≤ 8) (hC : rF uc (o + 24) 3 = nI C) (hC1 : C ≤ 100) (hL : rF uc (o + 6) 5 = nI L) (hL8 : kindOf P (nI cn) = 19 ∨ kindOf P (nI cn) = 20 → L < 800) (hO : okO9 uc A0 W) (hW : kindOf P (nI cn) = 19 → 0 < W) (hn19 : kindOf P (nI cn) = 19 → num = wt9 uc A0 0) (hn20 : kindOf P (nI cn) = 20 → num = drawN (rF uc 6 3) (P.2.2.1 cn)) (hF : 10000 < F) : ∃ u0 u' v k z, u0 = prepS uc o T (imin 64 (R T 120 + 1)) (R T 130) (R T 131) (uc.2.1 (o + 33) T) ∧ g_X8_perform F o (nI cn) u0 = some (z.2.1, v) ∧ mstep P (R T) num en = (upd z.1 133 (z.1 133 + 1), z.2) ∧ PO u' v o T N R l (upd (R T) 120 (imin 64 (R T 120 + 1))) z (if kindOf P (nI cn) = -1 then (-1, -1, -1) else lkV k (P.2.1 cn) (P.2.2.1 cn) (P.2.2.2 cn) L (upd (R T) 120 (imin 64 (R T 120 + 1))) (u0.2.1 (o + 14)) N) ∧ ((kindOf P (nI cn) = -1 ∧ u' = u0) ∨ (kindOf P (nI cn) = nI k ∧ k < 23 ∧ cn < 64 ∧ EX k z.2.1 u0 u' o T C L A0 W d (P.2.1 cn) (P.2.2.1 cn) ∧ (k = 17 → z.2.1 = 0 → z.1 120 = P.2.1 cn))) := by
  have hM := MD_start (x := imin 64 (R T 120 + 1)) h hT
  generalize hu0 : prepS uc o T (imin 64 (R T 120 + 1)) (R T 130) (R T 131) (uc.2.1 (o + 33) T) = u0 at *
  have f0 : ∀ i, i ≠ 100 * o + 11 → u0.1 i = uc.1 i := fun i hi => by rw [← hu0]; exact prepS_f hi
  have g10 : rF u0 o 10 = (upd (R T) 120 (imin 64 (R T 120 + 1))) 132 := by
    rw [pk_un (by decide)]
    exact (f0 _ (by omega)).trans h10
  have g11 : rF u0 o 11 = -1 := by
    rw [← hu0]
    show (sF uc o 11 (-1)).1 (100 * o + 11) = -1
    exact sF_y
  have a0 : ∀ j, j < o + 30 → u0.2.1 j = uc.2.1 j := fun j hj => by rw [← hu0]; exact prepS_n (by omega)
  have hP0 : PG u0 o P := fun k hk => by
    rw [a0 (o + 2) (by omega), a0 (o + 3) (by omega), a0 (o + 4) (by omega), a0 (o + 5) (by omega)]
    exact hP k hk
  have trap : kindOf P (nI cn) = -1 → g_X8_perform F o (nI cn) u0 = some (5, u0) → ∃ u0' u' v k z, u0' = u0 ∧ g_X8_perform F o (nI cn) u0' = some (z.2.1, v) ∧ mstep P (R T) num en = (upd z.1 133 (z.1 133 + 1), z.2) ∧ PO u' v o T N R l (upd (R T) 120 (imin 64 (R T 120 + 1))) z (if kindOf P (nI cn) = -1 then (-1, -1, -1) else lkV k (P.2.1 cn) (P.2.2.1 cn) (P.2.2.2 cn) L (upd (R T) 120 (imin 64 (R T 120 + 1))) (u0'.2.1 (o + 14)) N) ∧ ((kindOf P (nI cn) = -1 ∧ u' = u0') ∨ (kindOf P (nI cn) = nI k ∧ k < 23 ∧ cn < 64 ∧ EX k z.2.1 u0' u' o T C L A0 W d (P.2.1 cn) (P.2.2.1 cn) ∧ (k = 17 → z.2.1 = 0 → z.1 120 = P.2.1 cn))) := by
    intro hk he
    refine ⟨u0, u0, u0, 0, mtrp (upd (R T) 120 (imin 64 (R T 120 + 1))) 5, rfl, he, ?_, po_trap hM g11 (by decide), Or.inl ⟨hk, rfl⟩⟩
    unfold mstep
    rw [hc, if_pos hk]
  by_cases q : cn < 64
  · have ekd : kindOf P (nI cn) = P.1 cn := by
      unfold kindOf
      rw [if_pos (show nI cn < 64 from nI_lt (a := cn) (b := 64) q (by decide)), tnn (by omega)]
    by_cases q1 : P.1 cn = -1
    · refine trap (ekd.trans q1) ?_
      rw [x8_perf hP0 q, q1]
      unfold perfK
      rw [if_pos rfl]
    · have hfine := hok cn q
      obtain ⟨k, hk, ek⟩ := fine_k hfine q1
      rw [ek] at hfine
      have ekk : kindOf P (nI cn) = nI k := ekd.trans ek
      have k19 : k = 19 → kindOf P (nI cn) = 19 := fun z => by rw [ekk, z]; rfl
      have k20 : k = 20 → kindOf P (nI cn) = 20 := fun z => by rw [ekk, z]; rfl
      have hO0 : okO9 u0 A0 W := ⟨(f0 _ (by omega)).trans hO.1, (f0 _ (by omega)).trans hO.2.1, hO.2.2⟩
      have w0 : wt9 u0 A0 0 = wt9 uc A0 0 := by
        unfold wt9
        rw [a0 7 (by omega)]
      have x0 : rF u0 6 3 = rF uc 6 3 := f0 _ (by omega)
      have c120 : imin 64 (R T 120 + 1) = R T 120 + 1 := by
        rw [hc, nI_1]
        unfold imin
        by_cases z : cn = 63
        · subst z; decide
        · rw [if_pos (show nI (cn + 1) < 64 from nI_lt (a := cn + 1) (b := 64) (by omega) (by decide))]
      obtain ⟨v, u', e1, e2, e3⟩ := c_order (F := F) (k := k) (a := P.2.1 cn) (b := P.2.2.1 cn) (c := P.2.2.2 cn) (num := num) (en := en) (C := C) (L := L) (A0 := A0) (W := W) (d := d) hk hM hN g10 g11 hfine ho hd (by rw [pk_un (by decide)]; exact hd) d8 (fun i hi => by rw [pk_un (by omega)]) (by rw [pk_us, c120]) (by rw [pk_un (by decide)]) ((f0 _ (by omega)).trans hC) hC1 ((f0 _ (by omega)).trans hL) (fun z => hL8 (by rcases z with z | z; exact Or.inl (k19 z); exact Or.inr (k20 z))) hO0 (fun z => hW (k19 z)) (fun z => by rw [w0]; exact hn19 (k19 z)) (fun z => by rw [x0]; exact hn20 (k20 z)) hF
      refine ⟨u0, u', v, k, _, rfl, by rw [x8_perf hP0 q, ek]; exact e1, ?_, by rw [if_neg (by rw [ekk]; exact nI_m1 (by omega))]; exact e3, Or.inr ⟨ekk, hk, q, e2, ?_⟩⟩
      · unfold mstep
        rw [hc, if_neg (by rw [ekk]; exact nI_m1 (by omega)), ekk, tnn (by omega), tnn (by omega)]
      · intro z17 ztr
        subst z17
        have e17 : mdo (upd (R T) 120 (imin 64 (R T 120 + 1))) 17 (P.2.1 cn) (P.2.2.1 cn) (P.2.2.2 cn) num en = (if (upd (R T) 120 (imin 64 (R T 120 + 1))) 121 = 8 then mtrp (upd (R T) 120 (imin 64 (R T 120 + 1))) 4 else (upd (upd (upd (upd (R T) 120 (imin 64 (R T 120 + 1))) (122 + tn ((upd (R T) 120 (imin 64 (R T 120 + 1))) 121)) ((upd (R T) 120 (imin 64 (R T 120 + 1))) 120)) 121 ((upd (R T) 120 (imin 64 (R T 120 + 1))) 121 + 1)) 120 (P.2.1 cn), 0, -1, -1)) := rfl
        rw [e17] at ztr ⊢
        by_cases q8 : (upd (R T) 120 (imin 64 (R T 120 + 1))) 121 = 8
        · rw [if_pos q8] at ztr
          exact absurd (show (4 : Int32) = 0 from ztr) (by decide)
        · rw [if_neg q8]
          dsimp only
          rw [pk_us]
  · refine trap ?_ (x8_out q hcn)
    unfold kindOf
    rw [if_neg]
    rw [show cn = 64 by omega]
    decide
end XS
