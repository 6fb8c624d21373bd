/-! the class and the reference: replay and back on both sides -/
theorem cI_find {L : Lg} {M i : Nat} : ∀ n, M ≤ n → i < cI L n - cI L M → ∃ k, M ≤ k ∧ k < n ∧ L.2.1 k = 0 ∧ cI L k - cI L M = i
  | 0, h, hi => by rw [show M = 0 by omega, Nat.sub_self] at hi; omega
  | n + 1, h, hi => by
    rcases Nat.lt_or_ge n M with y | y
    · rw [show M = n + 1 by omega, Nat.sub_self] at hi; omega
    · have hup := cI_up (L := L) (M := M) n y
      by_cases q : L.2.1 n = 0
      · rw [cI_y q] at hi
        rcases Nat.lt_or_ge i (cI L n - cI L M) with z | z
        · obtain ⟨k, k1, k2, k3, k4⟩ := cI_find n y z
          exact ⟨k, k1, by omega, k3, k4⟩
        · exact ⟨n, y, by omega, q, by omega⟩
      · rw [cI_n q] at hi
        obtain ⟨k, k1, k2, k3, k4⟩ := cI_find n y hi
        exact ⟨k, k1, by omega, k3, k4⟩
section XY
variable {pB : Prop} {F o r K W W' C' t : Nat} {uc um um' w : rg_U}
theorem c_replay (hR : RR pB uc um o r) (hro : runOK um r) (ht : t ≤ Tr um r) (ho : 116 ≤ o) (hF : 10000 < F) : g_X9_replay F o (nI t) uc = some (sF (sF uc o 12 (rF uc o 12 + nI (costM um r t))) 0 13 (rF uc 0 13 + nI (costM um r t))) := by
  obtain ⟨q1, q2, q3, q4, q5, ⟨hU, hU2, hD, hD2⟩, hw, hH, hCk⟩ := id hro
  have hT3 := hw.1.2.2.2.1
  obtain ⟨r1, r2, r3, r4, r5, r6, N, hS⟩ := hR
  have cnt : ∀ x, g_X9_count F o x uc = some (sF (sF uc o 12 (rF uc o 12 + x)) 0 13 (rF uc 0 13 + x)) := fun x => by
    unfold g_X9_count
    rw [lt1_i, lt1_i, show rF (sF uc o 12 (rF uc o 12 + x)) 0 13 = rF uc 0 13 from sF_n (by omega)]
  unfold g_X9_replay g_X9_replay_j24
  rw [hS.1]
  unfold costM rcost
  by_cases q : t = Tr um r
  · rw [if_pos (by rw [q]), if_pos q, cnt, ob_i]
    rfl
  · have h0 : ¬ Hm um r 0 = 0 := by rw [hH.1]; decide
    have hle : hk (Hm um r) (t / Ur um r) * Ur um r ≤ t := Nat.le_trans (Nat.mul_le_mul_right _ (hk_le _ _)) (Nat.div_mul_le_self t (Ur um r))
    rw [if_neg (fun z => q (nI_inj (by omega) (by omega) z)), if_neg q, c_latestBy r4 h0 (HT_of hH) hT3 hU (by omega) hF, ob_i, nI_sub hle, cnt, ob_i]
theorem RR_back (hm : okM um K W) (h1 : um.2.1 5 4 = 1) (ht : t < Tr um 4) (hR : RR pB uc um o 4) (hO : OutR uc um W) (ho : 116 ≤ o) (hbk : bkD um um' W W' t (costM um 4 t) C') (hw2 : w.2 = uc.2) (hwf : ∀ k, k ≠ 100 * o + 12 → k ≠ 13 → w.1 k = uc.1 k) (hw12 : pB → rF w o 12 = um'.2.1 25 4) (hF : 10000 < F) : ∃ uc', g_X7_goBack F o (nI t) w = some uc' ∧ RR pB uc' um' o 4 ∧ OutR uc' um' W' ∧ uc'.2.2 = w.2.2 ∧ (∀ j, (j < o ∨ o + 33 < j) → j ≠ 7 → uc'.2.1 j = w.2.1 j) ∧ ∀ k, (k < 601 ∨ (602 < k ∧ k < 100 * o) ∨ 100 * (o + 34) ≤ k) → uc'.1 k = w.1 k := by
  have hc := hm.1
  have hro := hc.2.2.2.2.1 4 (Or.inr ⟨rfl, h1⟩)
  obtain ⟨q1, q2, q3, q4, q5, ⟨hU, hU2, hD, hD2⟩, hw, hH, hCk⟩ := id hro
  have hG := hw.1
  have hn8 := hG.2.2.1
  have hT3 := hG.2.2.2.1
  have h900 := hc.2.2.2.2.2.2.1.2.2 h1
  obtain ⟨r1, r2, r3, r4, r5, ⟨r6, r7, r8, r9⟩, N, hS⟩ := hR
  obtain ⟨A0, o1, o2, o3⟩ := hO
  obtain ⟨⟨b1, b2, b3, b4, b5⟩, b6, ⟨b7, b8, b9, b10, b11⟩, b12, b13, ⟨b14, b15⟩, b16, b17, b18, b19⟩ := hbk
  have hlt : (rpm um 4 t).2 ≤ nr um 4 := (rp_ok hG t (by omega)).2.2
  have wA : ∀ j, w.2.1 j = uc.2.1 j := fun j => by rw [hw2]
  -- the log
  have hLw : LG w o (nr um 4) (Lm um 4) := LG_f r2 (hwf _ (by omega) (by omega)) (fun j _ _ => wA j)
  have hOw : okO9 w A0 W := ⟨(hwf _ (by omega) (by omega)).trans o1.1, (hwf _ (by omega) (by omega)).trans o1.2.1, o1.2.2⟩
  obtain ⟨w1, A, d1, d2, d3, d4, d5, d6, d7, d8⟩ := c_dropLog (F := F) (t := t) (M0 := (rpm um 4 t).2) hLw hn8 hlt ho (fun k hk => by
    obtain ⟨q, a1, a2, a3⟩ := hw.2.1 k hk
    exact ⟨q, by omega, a2, a3 t (by omega)⟩) (by omega) hOw h900 hF
  have w1A : ∀ j, j ≠ 7 → w1.2.1 j = uc.2.1 j := fun j hj => (d3 j hj).trans (wA j)
  have w1f : ∀ k, k ≠ 601 → k ≠ 602 → k ≠ 100 * (o + 6) + 5 → k ≠ 100 * o + 12 → k ≠ 13 → w1.1 k = uc.1 k := fun k k1 k2 k3 k4 k5 => (d4 k k1 k2 k3).trans (hwf k k4 k5)
  -- the puts
  have hP1 : PI w1 (o + 12) (Tr um 4) N := PI_c hS.2.2.2.1 (w1f _ (by omega) (by omega) (by omega) (by omega) (by omega)) (fun j j1 j2 => w1A j (by omega)) (w1A _ (by omega))
  obtain ⟨w2, e1, e2, e3, e4, e5⟩ := c_dropPuts (F := F) (t := t) hP1 (by omega) hF
  have ec : cP (w1.2.1 (o + 12 + 1)) t N = cP (uc.2.1 (o + 13)) t N := by rw [w1A _ (by omega)]
  rw [ec] at e5
  have w2A : ∀ j, j ≠ 7 → j ≠ o + 23 → w2.2.1 j = uc.2.1 j := fun j hj h23 => (e3 j (by omega)).trans (w1A j hj)
  have w2f : ∀ k, k ≠ 601 → k ≠ 602 → k ≠ 100 * (o + 6) + 5 → k ≠ 100 * o + 12 → k ≠ 13 → k ≠ 100 * (o + 12) + 11 → w2.1 k = uc.1 k := fun k k1 k2 k3 k4 k5 k6 => (e4 k k6).trans (w1f k k1 k2 k3 k4 k5)
  -- the calls
  obtain ⟨hC1, ct, ct1, ct2⟩ := hCk
  obtain ⟨w3, C1, f1, f2, f3, f4, f5, f6, f7⟩ := c_dropFrom (F := F) (o := o + 24) (u := w2) (C := Cr um 4) (ct := ct) (t := t) ((w2f _ (by omega) (by omega) (by omega) (by omega) (by omega) (by omega)).trans r3.1) hC1 (fun i hi => ⟨by rw [show o + 24 + 1 = o + 25 from rfl, w2A _ (by omega) (by omega), (r3.2 i hi).1]; exact (ct1 i hi).1, by have := (ct1 i hi).2; omega⟩) ct2 (by omega) hF
  have eC : C1 = C' := by
    obtain ⟨x1, x2⟩ := b15 ct (fun i hi => ct1 i hi)
    rcases Nat.lt_trichotomy C1 C' with y | y | y
    · rcases x1 with z | z
      · omega
      · have := f7 (C' - 1) (by omega) (by omega)
        omega
    · exact y
    · rcases f6 with z | z
      · omega
      · have := x2 (C1 - 1) (by omega) (by omega)
        omega
  subst eC
  -- what is held
  have w3f : ∀ k, k ≠ 601 → k ≠ 602 → k ≠ 100 * (o + 6) + 5 → k ≠ 100 * o + 12 → k ≠ 13 → k ≠ 100 * (o + 12) + 11 → k ≠ 100 * (o + 24) + 3 → w3.1 k = uc.1 k := fun k k1 k2 k3 k4 k5 k6 k7 => (f3 k k7).trans (w2f k k1 k2 k3 k4 k5 k6)
  have w3A : ∀ j, j ≠ 7 → j ≠ o + 23 → w3.2.1 j = uc.2.1 j := fun j hj h23 => by rw [f2]; exact w2A j hj h23
  have hHI : HI w3 (o + 28) (Hm um 4) (Ur um 4) (Dr um 4) := HI_c r4 (w3f _ (by omega) (by omega) (by omega) (by omega) (by omega) (by omega) (by omega)) (w3f _ (by omega) (by omega) (by omega) (by omega) (by omega) (by omega) (by omega)) (w3f _ (by omega) (by omega) (by omega) (by omega) (by omega) (by omega) (by omega)) (w3A _ (by omega) (by omega))
  obtain ⟨w4, g1, g2, g3, g4⟩ := c_dropAbove (F := F) (t := t) hHI (HT_of hH) hT3 hF (by omega)
  -- the end
  have h9 : rF w o 9 = nI (Tr um 4) := (hwf _ (by omega) (by omega)).trans hS.1
  have eqg : g_X7_goBack F o (nI t) w = some (sF (sF (sF w4 o 9 (nI t)) o 10 0) o 13 (rF (sF (sF w4 o 9 (nI t)) o 10 0) o 13 + 1)) := by
    unfold g_X7_goBack
    rw [x7_hasT h9 hT3 (by omega), ob_i, if_neg (by decide), d1, ob_i, e1, ob_i, f1, ob_i, g1, ob_i, lt1_i, lt1_i, lt1_i]
  generalize hV : sF (sF (sF w4 o 9 (nI t)) o 10 0) o 13 (rF (sF (sF w4 o 9 (nI t)) o 10 0) o 13 + 1) = V at eqg
  have V4 : V.2 = w4.2 := by rw [← hV]; rfl
  have Vf : ∀ k, k ≠ 100 * o + 9 → k ≠ 100 * o + 10 → k ≠ 100 * o + 13 → V.1 k = w4.1 k := fun k k1 k2 k3 => by rw [← hV, sF_n k3, sF_n k2, sF_n k1]
  have V9 : rF V o 9 = nI t := by
    rw [← hV]
    show (sF (sF (sF w4 o 9 (nI t)) o 10 0) o 13 _).1 (100 * o + 9) = _
    rw [sF_n (by omega), sF_n (by omega)]
    exact sF_y
  have V10 : rF V o 10 = 0 := by
    rw [← hV]
    show (sF (sF (sF w4 o 9 (nI t)) o 10 0) o 13 _).1 (100 * o + 10) = _
    rw [sF_n (by omega)]
    exact sF_y
  have V13 : rF V o 13 = rF uc o 13 + 1 := by
    rw [← hV, sF_y]
    have : rF (sF (sF w4 o 9 (nI t)) o 10 0) o 13 = rF uc o 13 := by
      show (sF (sF w4 o 9 (nI t)) o 10 0).1 (100 * o + 13) = _
      rw [sF_n (by omega), sF_n (by omega), g3 _ (by omega)]
      exact w3f _ (by omega) (by omega) (by omega) (by omega) (by omega) (by omega) (by omega)
    rw [this]
  have VA : ∀ j, j ≠ 7 → j ≠ o + 23 → V.2.1 j = uc.2.1 j := fun j hj h23 => by rw [V4, g2]; exact w3A j hj h23
  have VF : ∀ k, k ≠ 601 → k ≠ 602 → k ≠ 100 * (o + 6) + 5 → k ≠ 100 * o + 12 → k ≠ 13 → k ≠ 100 * (o + 12) + 11 → k ≠ 100 * (o + 24) + 3 → k ≠ 100 * (o + 28) + 1 → k ≠ 100 * o + 9 → k ≠ 100 * o + 10 → k ≠ 100 * o + 13 → V.1 k = uc.1 k := fun k k1 k2 k3 k4 k5 k6 k7 k8 k9 k10 k11 => (Vf k k9 k10 k11).trans ((g3 k k8).trans (w3f k k1 k2 k3 k4 k5 k6 k7))
  have Vw : ∀ k, k ≠ 601 → k ≠ 602 → k ≠ 100 * (o + 6) + 5 → k ≠ 100 * (o + 12) + 11 → k ≠ 100 * (o + 24) + 3 → k ≠ 100 * (o + 28) + 1 → k ≠ 100 * o + 9 → k ≠ 100 * o + 10 → k ≠ 100 * o + 13 → V.1 k = w.1 k := fun k k1 k2 k3 k6 k7 k8 k9 k10 k11 => (Vf k k9 k10 k11).trans ((g3 k k8).trans ((f3 k k7).trans ((e4 k k6).trans (d4 k k1 k2 k3))))
  -- the reference's side
  have eP : Pm um' 4 = Pm um 4 := by
    unfold Pm
    rw [b6 6 (by omega), b6 7 (by omega), b6 8 (by omega), b6 9 (by omega)]
  have eL : Lm um' 4 = Lm um 4 := by
    unfold Lm
    rw [b6 10 (by omega), b6 11 (by omega), b6 12 (by omega), b6 13 (by omega), b6 14 (by omega)]
  have eU : Ur um' 4 = Ur um 4 := by
    unfold Ur
    rw [b6 23 (by omega)]
  have eD : Dr um' 4 = Dr um 4 := by
    unfold Dr
    rw [b6 24 (by omega)]
  have hcut : cP (uc.2.1 (o + 13)) t N ≤ N := cP_le N
  have hVW : W' - W = cI (Lm um 4) (nr um 4) - cI (Lm um 4) (rpm um 4 t).2 := by omega
  have hX : RX V um' o 4 := by
    refine RX_back (T := Tr um 4) (t := t) r5.2 hS.2.2.2.1 rfl (by omega) ((Vf _ (by omega) (by omega) (by omega)).trans ((g3 _ (by omega)).trans ((f3 _ (by omega)).trans e5.1))) (fun j j1 j2 => VA j (by omega) (by omega)) b3 (fun s hs => ?_)
    rw [eP, eL]
    exact rS_ext (t0 := t) hG agL_r (by omega) (fun s' hs' => b17 s' hs') s hs
  refine ⟨V, eqg, ⟨fun k hk => ?_, ⟨?_, fun k hk => ?_⟩, ⟨?_, fun i hi => ?_⟩, ?_, ⟨?_, hX⟩, ⟨?_, ?_, ?_, ?_⟩, cP (uc.2.1 (o + 13)) t N, ?_⟩, ⟨A, ⟨?_, ?_, d6.2.2.1, by rw [b5]; exact d6.2.2.2⟩, fun i hi => ?_, ?_⟩, ?_, fun j hj h7 => ?_, fun k hk => ?_⟩
  · rw [eP, VA (o + 2) (by omega) (by omega), VA (o + 3) (by omega) (by omega), VA (o + 4) (by omega) (by omega), VA (o + 5) (by omega) (by omega)]
    exact r1 k hk
  · rw [b2]
    exact (Vf _ (by omega) (by omega) (by omega)).trans ((g3 _ (by omega)).trans ((f3 _ (by omega)).trans ((e4 _ (by omega)).trans d5)))
  · rw [b2] at hk
    rw [eL, VA (o + 7) (by omega) (by omega), VA (o + 8) (by omega) (by omega), VA (o + 9) (by omega) (by omega), VA (o + 10) (by omega) (by omega), VA (o + 11) (by omega) (by omega)]
    exact r2.2 k (by omega)
  · rw [b4]
    exact (Vf _ (by omega) (by omega) (by omega)).trans ((g3 _ (by omega)).trans f4)
  · rw [b4] at hi
    rw [b6 16 (by omega), b6 17 (by omega), b6 18 (by omega), VA (o + 25) (by omega) (by omega), VA (o + 26) (by omega) (by omega), VA (o + 27) (by omega) (by omega)]
    exact r3.2 i (by omega)
  · rw [eU, eD]
    have : HI V (o + 28) (fun k => if t < k * Ur um 4 then 0 else Hm um 4 k) (Ur um 4) (Dr um 4) := HI_c g4 (Vf _ (by omega) (by omega) (by omega)) (Vf _ (by omega) (by omega) (by omega)) (Vf _ (by omega) (by omega) (by omega)) (by rw [V4])
    exact HI_H this (fun k hk => b16 k hk)
  · intro k hk hz
    rw [eU, eD, b3]
    rw [b16 k hk] at hz
    by_cases y : t < k * Ur um 4
    · rw [if_pos y] at hz; exact absurd rfl hz
    · rw [if_neg y] at hz
      rcases r5.1 k hk hz with z | ⟨z1, z2⟩
      · exact Or.inl z
      · have := Nat.div_le_div_right (c := Ur um 4) (Nat.le_of_lt ht)
        exact Or.inr ⟨(Nat.le_div_iff_mul_le hU).mpr (by omega), by omega⟩
  · rw [b6 26 (by omega)]
    exact (VF _ (by omega) (by omega) (by omega) (by omega) (by omega) (by omega) (by omega) (by omega) (by omega) (by omega) (by omega)).trans r6
  · rw [b3, b17 t (Nat.le_refl _), V10]
    exact (hw.2.2.2 t ht).symm
  · intro hb
    rw [← hw12 hb]
    exact Vw _ (by omega) (by omega) (by omega) (by omega) (by omega) (by omega) (by omega) (by omega) (by omega)
  · rw [V13, b8, r9]
  · rw [b3]
    refine ⟨V9, by omega, fun s hs => SI_c (hS.2.2.1 s (by omega)) (fun s' _ => by rw [VA (o + 30) (by omega) (by omega)]) (by rw [VA (o + 31) (by omega) (by omega)]) (by rw [VA (o + 32) (by omega) (by omega)]) (by rw [VA (o + 33) (by omega) (by omega)]) (fun s' hs' => by rw [b17 s' (by omega)]), PI_c e5 ((Vf _ (by omega) (by omega) (by omega)).trans ((g3 _ (by omega)).trans (f3 _ (by omega)))) (fun j j1 j2 => by rw [V4, g2, f2]) (by rw [V4, g2, f2]), fun s hs => ?_⟩
    rw [VA (o + 13) (by omega) (by omega), show o + 13 = o + 12 + 1 from rfl, cP_cut hS.2.2.2.1.2.2.2.1 hs]
    dsimp only
    rw [b17 s hs]
    have := hS.2.2.2.2 s (by omega)
    exact ⟨PRow_c this.1 (fun j j1 j2 => VA j (by omega) (by omega)), this.2⟩
  · exact (Vf _ (by omega) (by omega) (by omega)).trans ((g3 _ (by omega)).trans ((f3 _ (by omega)).trans ((e4 _ (by omega)).trans d6.1)))
  · rw [b5]
    exact (Vf _ (by omega) (by omega) (by omega)).trans ((g3 _ (by omega)).trans ((f3 _ (by omega)).trans ((e4 _ (by omega)).trans d6.2.1)))
  · have ew : ∀ i, wt9 V A i = wt9 w1 A i := fun i => by
      unfold wt9
      rw [V4, g2, f2, e3 7 (by omega)]
    have ew0 : ∀ i, wt9 w A0 i = wt9 uc A0 i := fun i => by
      unfold wt9
      rw [wA 7]
    rw [ew]
    rcases Nat.lt_or_ge i (cI (Lm um 4) (nr um 4) - cI (Lm um 4) (rpm um 4 t).2) with y | y
    · obtain ⟨k, k1, k2, k3, k4⟩ := cI_find (nr um 4) hlt y
      rw [← k4, d8 k k1 k2 k3, b19 k k1 k2 k3]
    · have hi2 : i - (cI (Lm um 4) (nr um 4) - cI (Lm um 4) (rpm um 4 t).2) < W := by omega
      have x1 := d7 _ hi2
      have x2 := b18 _ hi2
      rw [hVW] at x2
      rw [show i - (cI (Lm um 4) (nr um 4) - cI (Lm um 4) (rpm um 4 t).2) + (cI (Lm um 4) (nr um 4) - cI (Lm um 4) (rpm um 4 t).2) = i by omega] at x1 x2
      rw [x1, x2, ew0, o2 _ hi2]
  · rw [b11, ← o3]
    exact VF _ (by omega) (by omega) (by omega) (by omega) (by omega) (by omega) (by omega) (by omega) (by omega) (by omega) (by omega)
  · rw [V4, g2, f2, e2, d2]
  · rw [VA j h7 (by omega), ← wA j]
  · exact Vw k (by omega) (by omega) (by omega) (by omega) (by omega) (by omega) (by omega) (by omega) (by omega)
end XY
