section W_72
-- 97zzg.back
/-! the class and the reference: replay and back on both sides -/
theorem cI_find {L : Lg} {M i : Nat} : ∀ n, M ≤ n → i < cI L n - cI L M → ∃ k, M ≤ k ∧ k < n ∧ L.2.1 k = 0 ∧ cI L k - cI L M = i
  | 0, h, hi => by rw [show M = 0 by omega, Nat.sub_self] at hi; omega
  | n + 1, h, hi => by
    rcases Nat.lt_or_ge n M with y | y
    · rw [show M = n + 1 by omega, Nat.sub_self] at hi; omega
    · have hup := cI_up (L := L) (M := M) n y
      by_cases q : L.2.1 n = 0
      · rw [cI_y q] at hi
        rcases Nat.lt_or_ge i (cI L n - cI L M) with z | z
        · obtain ⟨k, k1, k2, k3, k4⟩ := cI_find n y z
          exact ⟨k, k1, by omega, k3, k4⟩
        · exact ⟨n, y, by omega, q, by omega⟩
      · rw [cI_n q] at hi
        obtain ⟨k, k1, k2, k3, k4⟩ := cI_find n y hi
        exact ⟨k, k1, by omega, k3, k4⟩
section XY
variable {pB : Prop} {F o r K W W' C' t : Nat} {uc um um' w : rg_U}
theorem c_replay (hR : RR pB uc um o r) (hro : runOK um r) (ht : t ≤ Tr um r) (ho : 116 ≤ o) (hF : 10000 < F) : g_X9_replay F o (nI t) uc = some (sF (sF uc o 12 (rF uc o 12 + nI (costM um r t))) 0 13 (rF uc 0 13 + nI (costM um r t))) := by
  obtain ⟨q1, q2, q3, q4, q5, ⟨hU, hU2, hD, hD2⟩, hw, hH, hCk⟩ := id hro
  have hT3 := hw.1.2.2.2.1
  obtain ⟨r1, r2, r3, r4, r5, r6, N, hS⟩ := hR
  have cnt : ∀ x, g_X9_count F o x uc = some (sF (sF uc o 12 (rF uc o 12 + x)) 0 13 (rF uc 0 13 + x)) := fun x => by
    unfold g_X9_count
    rw [lt1_i, lt1_i, show rF (sF uc o 12 (rF uc o 12 + x)) 0 13 = rF uc 0 13 from sF_n (by omega)]
  unfold g_X9_replay g_X9_replay_j24
  rw [hS.1]
  unfold costM rcost
  by_cases q : t = Tr um r
  · rw [if_pos (by rw [q]), if_pos q, cnt, ob_i]
    rfl
  · have h0 : ¬ Hm um r 0 = 0 := by rw [hH.1]; decide
    have hle : hk (Hm um r) (t / Ur um r) * Ur um r ≤ t := Nat.le_trans (Nat.mul_le_mul_right _ (hk_le _ _)) (Nat.div_mul_le_self t (Ur um r))
    rw [if_neg (fun z => q (nI_inj (by omega) (by omega) z)), if_neg q, c_latestBy r4 h0 (HT_of hH) hT3 hU (by omega) hF, ob_i, nI_sub hle, cnt, ob_i]
theorem RR_back (hm : okM um K W) (h1 : um.2.1 5 4 = 1) (ht : t < Tr um 4) (hR : RR pB uc um o 4) (hO : OutR uc um W) (ho : 116 ≤ o) (hbk : bkD um um' W W' t (costM um 4 t) C') (hw2 : w.2 = uc.2) (hwf : ∀ k, k ≠ 100 * o + 12 → k ≠ 13 → w.1 k = uc.1 k) (hw12 : pB → rF w o 12 = um'.2.1 25 4) (hF : 10000 < F) : ∃ uc', g_X7_goBack F o (nI t) w = some uc' ∧ RR pB uc' um' o 4 ∧ OutR uc' um' W' ∧ uc'.2.2 = w.2.2 ∧ (∀ j, (j < o ∨ o + 33 < j) → j ≠ 7 → uc'.2.1 j = w.2.1 j) ∧ ∀ k, (k < 601 ∨ (602 < k ∧ k < 100 * o) ∨ 100 * (o + 34) ≤ k) → uc'.1 k = w.1 k := by
  have hc := hm.1
  have hro := hc.2.2.2.2.1 4 (Or.inr ⟨rfl, h1⟩)
  obtain ⟨q1, q2, q3, q4, q5, ⟨hU, hU2, hD, hD2⟩, hw, hH, hCk⟩ := id hro
  have hG := hw.1
  have hn8 := hG.2.2.1
  have hT3 := hG.2.2.2.1
  have h900 := hc.2.2.2.2.2.2.1.2.2 h1
  obtain ⟨r1, r2, r3, r4, r5, ⟨r6, r7, r8, r9⟩, N, hS⟩ := hR
  obtain ⟨A0, o1, o2, o3⟩ := hO
  obtain ⟨⟨b1, b2, b3, b4, b5⟩, b6, ⟨b7, b8, b9, b10, b11⟩, b12, b13, ⟨b14, b15⟩, b16, b17, b18, b19⟩ := hbk
  have hlt : (rpm um 4 t).2 ≤ nr um 4 := (rp_ok hG t (by omega)).2.2
  have wA : ∀ j, w.2.1 j = uc.2.1 j := fun j => by rw [hw2]
  -- the log
  have hLw : LG w o (nr um 4) (Lm um 4) := LG_f r2 (hwf _ (by omega) (by omega)) (fun j _ _ => wA j)
  have hOw : okO9 w A0 W := ⟨(hwf _ (by omega) (by omega)).trans o1.1, (hwf _ (by omega) (by omega)).trans o1.2.1, o1.2.2⟩
  obtain ⟨w1, A, d1, d2, d3, d4, d5, d6, d7, d8⟩ := c_dropLog (F := F) (t := t) (M0 := (rpm um 4 t).2) hLw hn8 hlt ho (fun k hk => by
    obtain ⟨q, a1, a2, a3⟩ := hw.2.1 k hk
    exact ⟨q, by omega, a2, a3 t (by omega)⟩) (by omega) hOw h900 hF
  have w1A : ∀ j, j ≠ 7 → w1.2.1 j = uc.2.1 j := fun j hj => (d3 j hj).trans (wA j)
  have w1f : ∀ k, k ≠ 601 → k ≠ 602 → k ≠ 100 * (o + 6) + 5 → k ≠ 100 * o + 12 → k ≠ 13 → w1.1 k = uc.1 k := fun k k1 k2 k3 k4 k5 => (d4 k k1 k2 k3).trans (hwf k k4 k5)
  -- the puts
  have hP1 : PI w1 (o + 12) (Tr um 4) N := PI_c hS.2.2.2.1 (w1f _ (by omega) (by omega) (by omega) (by omega) (by omega)) (fun j j1 j2 => w1A j (by omega)) (w1A _ (by omega))
  obtain ⟨w2, e1, e2, e3, e4, e5⟩ := c_dropPuts (F := F) (t := t) hP1 (by omega) hF
  have ec : cP (w1.2.1 (o + 12 + 1)) t N = cP (uc.2.1 (o + 13)) t N := by rw [w1A _ (by omega)]
  rw [ec] at e5
  have w2A : ∀ j, j ≠ 7 → j ≠ o + 23 → w2.2.1 j = uc.2.1 j := fun j hj h23 => (e3 j (by omega)).trans (w1A j hj)
  have w2f : ∀ k, k ≠ 601 → k ≠ 602 → k ≠ 100 * (o + 6) + 5 → k ≠ 100 * o + 12 → k ≠ 13 → k ≠ 100 * (o + 12) + 11 → w2.1 k = uc.1 k := fun k k1 k2 k3 k4 k5 k6 => (e4 k k6).trans (w1f k k1 k2 k3 k4 k5)
  -- the calls
  obtain ⟨hC1, ct, ct1, ct2⟩ := hCk
  obtain ⟨w3, C1, f1, f2, f3, f4, f5, f6, f7⟩ := c_dropFrom (F := F) (o := o + 24) (u := w2) (C := Cr um 4) (ct := ct) (t := t) ((w2f _ (by omega) (by omega) (by omega) (by omega) (by omega) (by omega)).trans r3.1) hC1 (fun i hi => ⟨by rw [show o + 24 + 1 = o + 25 from rfl, w2A _ (by omega) (by omega), (r3.2 i hi).1]; exact (ct1 i hi).1, by have := (ct1 i hi).2; omega⟩) ct2 (by omega) hF
  have eC : C1 = C' := by
    obtain ⟨x1, x2⟩ := b15 ct (fun i hi => ct1 i hi)
    rcases Nat.lt_trichotomy C1 C' with y | y | y
    · rcases x1 with z | z
      · omega
      · have := f7 (C' - 1) (by omega) (by omega)
        omega
    · exact y
    · rcases f6 with z | z
      · omega
      · have := x2 (C1 - 1) (by omega) (by omega)
        omega
  subst eC
  -- what is held
  have w3f : ∀ k, k ≠ 601 → k ≠ 602 → k ≠ 100 * (o + 6) + 5 → k ≠ 100 * o + 12 → k ≠ 13 → k ≠ 100 * (o + 12) + 11 → k ≠ 100 * (o + 24) + 3 → w3.1 k = uc.1 k := fun k k1 k2 k3 k4 k5 k6 k7 => (f3 k k7).trans (w2f k k1 k2 k3 k4 k5 k6)
  have w3A : ∀ j, j ≠ 7 → j ≠ o + 23 → w3.2.1 j = uc.2.1 j := fun j hj h23 => by rw [f2]; exact w2A j hj h23
  have hHI : HI w3 (o + 28) (Hm um 4) (Ur um 4) (Dr um 4) := HI_c r4 (w3f _ (by omega) (by omega) (by omega) (by omega) (by omega) (by omega) (by omega)) (w3f _ (by omega) (by omega) (by omega) (by omega) (by omega) (by omega) (by omega)) (w3f _ (by omega) (by omega) (by omega) (by omega) (by omega) (by omega) (by omega)) (w3A _ (by omega) (by omega))
  obtain ⟨w4, g1, g2, g3, g4⟩ := c_dropAbove (F := F) (t := t) hHI (HT_of hH) hT3 hF (by omega)
  -- the end
  have h9 : rF w o 9 = nI (Tr um 4) := (hwf _ (by omega) (by omega)).trans hS.1
  have eqg : g_X7_goBack F o (nI t) w = some (sF (sF (sF w4 o 9 (nI t)) o 10 0) o 13 (rF (sF (sF w4 o 9 (nI t)) o 10 0) o 13 + 1)) := by
    unfold g_X7_goBack
    rw [x7_hasT h9 hT3 (by omega), ob_i, if_neg (by decide), d1, ob_i, e1, ob_i, f1, ob_i, g1, ob_i, lt1_i, lt1_i, lt1_i]
  generalize hV : sF (sF (sF w4 o 9 (nI t)) o 10 0) o 13 (rF (sF (sF w4 o 9 (nI t)) o 10 0) o 13 + 1) = V at eqg
  have V4 : V.2 = w4.2 := by rw [← hV]; rfl
  have Vf : ∀ k, k ≠ 100 * o + 9 → k ≠ 100 * o + 10 → k ≠ 100 * o + 13 → V.1 k = w4.1 k := fun k k1 k2 k3 => by rw [← hV, sF_n k3, sF_n k2, sF_n k1]
  have V9 : rF V o 9 = nI t := by
    rw [← hV]
    show (sF (sF (sF w4 o 9 (nI t)) o 10 0) o 13 _).1 (100 * o + 9) = _
    rw [sF_n (by omega), sF_n (by omega)]
    exact sF_y
  have V10 : rF V o 10 = 0 := by
    rw [← hV]
    show (sF (sF (sF w4 o 9 (nI t)) o 10 0) o 13 _).1 (100 * o + 10) = _
    rw [sF_n (by omega)]
    exact sF_y
  have V13 : rF V o 13 = rF uc o 13 + 1 := by
    rw [← hV, sF_y]
    have : rF (sF (sF w4 o 9 (nI t)) o 10 0) o 13 = rF uc o 13 := by
      show (sF (sF w4 o 9 (nI t)) o 10 0).1 (100 * o + 13) = _
      rw [sF_n (by omega), sF_n (by omega), g3 _ (by omega)]
      exact w3f _ (by omega) (by omega) (by omega) (by omega) (by omega) (by omega) (by omega)
    rw [this]
  have VA : ∀ j, j ≠ 7 → j ≠ o + 23 → V.2.1 j = uc.2.1 j := fun j hj h23 => by rw [V4, g2]; exact w3A j hj h23
  have VF : ∀ k, k ≠ 601 → k ≠ 602 → k ≠ 100 * (o + 6) + 5 → k ≠ 100 * o + 12 → k ≠ 13 → k ≠ 100 * (o + 12) + 11 → k ≠ 100 * (o + 24) + 3 → k ≠ 100 * (o + 28) + 1 → k ≠ 100 * o + 9 → k ≠ 100 * o + 10 → k ≠ 100 * o + 13 → V.1 k = uc.1 k := fun k k1 k2 k3 k4 k5 k6 k7 k8 k9 k10 k11 => (Vf k k9 k10 k11).trans ((g3 k k8).trans (w3f k k1 k2 k3 k4 k5 k6 k7))
  have Vw : ∀ k, k ≠ 601 → k ≠ 602 → k ≠ 100 * (o + 6) + 5 → k ≠ 100 * (o + 12) + 11 → k ≠ 100 * (o + 24) + 3 → k ≠ 100 * (o + 28) + 1 → k ≠ 100 * o + 9 → k ≠ 100 * o + 10 → k ≠ 100 * o + 13 → V.1 k = w.1 k := fun k k1 k2 k3 k6 k7 k8 k9 k10 k11 => (Vf k k9 k10 k11).trans ((g3 k k8).trans ((f3 k k7).trans ((e4 k k6).trans (d4 k k1 k2 k3))))
  -- the reference's side
  have eP : Pm um' 4 = Pm um 4 := by
    unfold Pm
    rw [b6 6 (by omega), b6 7 (by omega), b6 8 (by omega), b6 9 (by omega)]
  have eL : Lm um' 4 = Lm um 4 := by
    unfold Lm
    rw [b6 10 (by omega), b6 11 (by omega), b6 12 (by omega), b6 13 (by omega), b6 14 (by omega)]
  have eU : Ur um' 4 = Ur um 4 := by
    unfold Ur
    rw [b6 23 (by omega)]
  have eD : Dr um' 4 = Dr um 4 := by
    unfold Dr
    rw [b6 24 (by omega)]
  have hcut : cP (uc.2.1 (o + 13)) t N ≤ N := cP_le N
  have hVW : W' - W = cI (Lm um 4) (nr um 4) - cI (Lm um 4) (rpm um 4 t).2 := by omega
  refine ⟨V, eqg, ⟨fun k hk => ?_, ⟨?_, fun k hk => ?_⟩, ⟨?_, fun i hi => ?_⟩, ?_, ?_, ⟨?_, ?_, ?_, ?_⟩, cP (uc.2.1 (o + 13)) t N, ?_⟩, ⟨A, ⟨?_, ?_, d6.2.2.1, by rw [b5]; exact d6.2.2.2⟩, fun i hi => ?_, ?_⟩, ?_, fun j hj h7 => ?_, fun k hk => ?_⟩
  · rw [eP, VA (o + 2) (by omega) (by omega), VA (o + 3) (by omega) (by omega), VA (o + 4) (by omega) (by omega), VA (o + 5) (by omega) (by omega)]
    exact r1 k hk
  · rw [b2]
    exact (Vf _ (by omega) (by omega) (by omega)).trans ((g3 _ (by omega)).trans ((f3 _ (by omega)).trans ((e4 _ (by omega)).trans d5)))
  · rw [b2] at hk
    rw [eL, VA (o + 7) (by omega) (by omega), VA (o + 8) (by omega) (by omega), VA (o + 9) (by omega) (by omega), VA (o + 10) (by omega) (by omega), VA (o + 11) (by omega) (by omega)]
    exact r2.2 k (by omega)
  · rw [b4]
    exact (Vf _ (by omega) (by omega) (by omega)).trans ((g3 _ (by omega)).trans f4)
  · rw [b4] at hi
    rw [b6 16 (by omega), b6 17 (by omega), b6 18 (by omega), VA (o + 25) (by omega) (by omega), VA (o + 26) (by omega) (by omega), VA (o + 27) (by omega) (by omega)]
    exact r3.2 i (by omega)
  · rw [eU, eD]
    have : HI V (o + 28) (fun k => if t < k * Ur um 4 then 0 else Hm um 4 k) (Ur um 4) (Dr um 4) := HI_c g4 (Vf _ (by omega) (by omega) (by omega)) (Vf _ (by omega) (by omega) (by omega)) (Vf _ (by omega) (by omega) (by omega)) (by rw [V4])
    exact HI_H this (fun k hk => b16 k hk)
  · intro k hk hz
    rw [eU, eD, b3]
    rw [b16 k hk] at hz
    by_cases y : t < k * Ur um 4
    · rw [if_pos y] at hz; exact absurd rfl hz
    · rw [if_neg y] at hz
      rcases r5 k hk hz with z | ⟨z1, z2⟩
      · exact Or.inl z
      · have := Nat.div_le_div_right (c := Ur um 4) (Nat.le_of_lt ht)
        exact Or.inr ⟨(Nat.le_div_iff_mul_le hU).mpr (by omega), by omega⟩
  · rw [b6 26 (by omega)]
    exact (VF _ (by omega) (by omega) (by omega) (by omega) (by omega) (by omega) (by omega) (by omega) (by omega) (by omega) (by omega)).trans r6
  · rw [b3, b17 t (Nat.le_refl _), V10]
    exact (hw.2.2.2 t ht).symm
  · intro hb
    rw [← hw12 hb]
    exact Vw _ (by omega) (by omega) (by omega) (by omega) (by omega) (by omega) (by omega) (by omega) (by omega)
  · rw [V13, b8, r9]
  · rw [b3]
    refine ⟨V9, by omega, fun s hs => SI_c (hS.2.2.1 s (by omega)) (fun s' _ => by rw [VA (o + 30) (by omega) (by omega)]) (by rw [VA (o + 31) (by omega) (by omega)]) (by rw [VA (o + 32) (by omega) (by omega)]) (by rw [VA (o + 33) (by omega) (by omega)]) (fun s' hs' => by rw [b17 s' (by omega)]), PI_c e5 ((Vf _ (by omega) (by omega) (by omega)).trans ((g3 _ (by omega)).trans (f3 _ (by omega)))) (fun j j1 j2 => by rw [V4, g2, f2]) (by rw [V4, g2, f2]), fun s hs => ?_⟩
    rw [VA (o + 13) (by omega) (by omega), show o + 13 = o + 12 + 1 from rfl, cP_cut hS.2.2.2.1.2.2.2.1 hs]
    dsimp only
    rw [b17 s hs]
    have := hS.2.2.2.2 s (by omega)
    exact ⟨PRow_c this.1 (fun j j1 j2 => VA j (by omega) (by omega)), this.2⟩
  · exact (Vf _ (by omega) (by omega) (by omega)).trans ((g3 _ (by omega)).trans ((f3 _ (by omega)).trans ((e4 _ (by omega)).trans d6.1)))
  · rw [b5]
    exact (Vf _ (by omega) (by omega) (by omega)).trans ((g3 _ (by omega)).trans ((f3 _ (by omega)).trans ((e4 _ (by omega)).trans d6.2.1)))
  · have ew : ∀ i, wt9 V A i = wt9 w1 A i := fun i => by
      unfold wt9
      rw [V4, g2, f2, e3 7 (by omega)]
    have ew0 : ∀ i, wt9 w A0 i = wt9 uc A0 i := fun i => by
      unfold wt9
      rw [wA 7]
    rw [ew]
    rcases Nat.lt_or_ge i (cI (Lm um 4) (nr um 4) - cI (Lm um 4) (rpm um 4 t).2) with y | y
    · obtain ⟨k, k1, k2, k3, k4⟩ := cI_find (nr um 4) hlt y
      rw [← k4, d8 k k1 k2 k3, b19 k k1 k2 k3]
    · have hi2 : i - (cI (Lm um 4) (nr um 4) - cI (Lm um 4) (rpm um 4 t).2) < W := by omega
      have x1 := d7 _ hi2
      have x2 := b18 _ hi2
      rw [hVW] at x2
      rw [show i - (cI (Lm um 4) (nr um 4) - cI (Lm um 4) (rpm um 4 t).2) + (cI (Lm um 4) (nr um 4) - cI (Lm um 4) (rpm um 4 t).2) = i by omega] at x1 x2
      rw [x1, x2, ew0, o2 _ hi2]
  · rw [b11, ← o3]
    exact VF _ (by omega) (by omega) (by omega) (by omega) (by omega) (by omega) (by omega) (by omega) (by omega) (by omega) (by omega)
  · rw [V4, g2, f2, e2, d2]
  · rw [VA j h7 (by omega), ← wA j]
  · exact Vw k (by omega) (by omega) (by omega) (by omega) (by omega) (by omega) (by omega) (by omega) (by omega)
end XY
end W_72
section W_73
-- 97zzh.take
/-! the class: a run is copied -/
section XZ
variable {F o0 o1 n k : Nat} {u w : rg_U}
/-- rows 1 .. k of o1 are copied to o0, n of each -/
def CPd (u w : rg_U) (o0 o1 k n : Nat) : Prop := same0 u w ∧ ∀ j i, w.2.1 j i = if (o0 + 1 ≤ j ∧ j ≤ o0 + k) ∧ i < n then u.2.1 (j - o0 + o1) i else u.2.1 j i
theorem cp_0 : CPd u u o0 o1 0 n := ⟨same0_r, fun j i => by rw [if_neg (by omega)]⟩
theorem cp_next {N : Nat} (h : CPd u w o0 o1 k n) (hd : o0 + 11 < o1 ∨ o1 + 11 < o0) (hk : k < 11) (hn : n ≤ N) (hN : N < 2 ^ 31) : ∃ w', g_X9_copyRow F (o1 + (k + 1)) N (o0 + (k + 1)) N (nI n) w = some w' ∧ CPd u w' o0 o1 (k + 1) n := by
  obtain ⟨w', e, s, ha⟩ := c_copyRow (F := F) (o0 := o1 + (k + 1)) (o1 := o0 + (k + 1)) (u := w) hn hN
  refine ⟨w', e, ⟨s.1.trans h.1.1, s.2.trans h.1.2⟩, fun j i => ?_⟩
  rw [ha]
  by_cases q : j = o0 + (k + 1) ∧ i < n
  · rw [if_pos q, if_pos (by omega), h.2, if_neg (by omega), show j - o0 + o1 = o1 + (k + 1) by omega]
  · rw [if_neg q, h.2]
    by_cases q2 : (o0 + 1 ≤ j ∧ j ≤ o0 + k) ∧ i < n
    · rw [if_pos q2, if_pos (by omega)]
    · rw [if_neg q2, if_neg (by omega)]
theorem cp_f {s : Nat} {x : Int32} (h : CPd u w o0 o1 k n) (hs : rF u o0 s = x) : rF w o0 s = x := by
  rw [← hs]
  unfold rF
  rw [h.1.1]
theorem c_logTake (hn : rF u o1 5 = nI n) (h8 : n ≤ 800) (hd : o0 + 11 < o1 ∨ o1 + 11 < o0) : ∃ w, g_X3_takeFrom F o0 o1 u = some w ∧ CPd (sF u o0 5 (nI n)) w o0 o1 5 n := by
  unfold g_X3_takeFrom
  rw [hn, lt1_i]
  have e0 : rF (sF u o0 5 (nI n)) o0 5 = nI n := sF_y
  obtain ⟨w1, a1, h1⟩ := cp_next (F := F) (N := 800) (cp_0 (u := sF u o0 5 (nI n)) (o0 := o0) (o1 := o1) (n := n)) hd (by omega) h8 (by decide)
  rw [e0, a1, ob_i, cp_f h1 e0]
  obtain ⟨w2, a2, h2⟩ := cp_next (F := F) (N := 800) h1 hd (by omega) h8 (by decide)
  rw [a2, ob_i, cp_f h2 e0]
  obtain ⟨w3, a3, h3⟩ := cp_next (F := F) (N := 800) h2 hd (by omega) h8 (by decide)
  rw [a3, ob_i, cp_f h3 e0]
  obtain ⟨w4, a4, h4⟩ := cp_next (F := F) (N := 800) h3 hd (by omega) h8 (by decide)
  rw [a4, ob_i, cp_f h4 e0]
  obtain ⟨w5, a5, h5⟩ := cp_next (F := F) (N := 800) h4 hd (by omega) h8 (by decide)
  rw [a5, ob_i]
  exact ⟨w5, rfl, h5⟩
theorem c_putsTake (hn : rF u o1 11 = nI n) (h8 : n ≤ 3800) (hd : o0 + 11 < o1 ∨ o1 + 11 < o0) : ∃ w, g_X6_takeFrom F o0 o1 u = some w ∧ same0 (sF u o0 11 (nI n)) w ∧ ∀ j i, w.2.1 j i = if (o0 + 1 ≤ j ∧ j ≤ o0 + 10) ∧ i < n then u.2.1 (j - o0 + o1) i else if j = o0 + 11 ∧ i < 40 then u.2.1 (o1 + 11) i else u.2.1 j i := by
  unfold g_X6_takeFrom
  rw [hn, lt1_i]
  have e0 : rF (sF u o0 11 (nI n)) o0 11 = nI n := sF_y
  obtain ⟨w1, a1, h1⟩ := cp_next (F := F) (N := 3800) (cp_0 (u := sF u o0 11 (nI n)) (o0 := o0) (o1 := o1) (n := n)) hd (by omega) h8 (by decide)
  rw [e0, a1, ob_i, cp_f h1 e0]
  obtain ⟨w2, a2, h2⟩ := cp_next (F := F) (N := 3800) h1 hd (by omega) h8 (by decide)
  rw [a2, ob_i, cp_f h2 e0]
  obtain ⟨w3, a3, h3⟩ := cp_next (F := F) (N := 3800) h2 hd (by omega) h8 (by decide)
  rw [a3, ob_i, cp_f h3 e0]
  obtain ⟨w4, a4, h4⟩ := cp_next (F := F) (N := 3800) h3 hd (by omega) h8 (by decide)
  rw [a4, ob_i, cp_f h4 e0]
  obtain ⟨w5, a5, h5⟩ := cp_next (F := F) (N := 3800) h4 hd (by omega) h8 (by decide)
  rw [a5, ob_i, cp_f h5 e0]
  obtain ⟨w6, a6, h6⟩ := cp_next (F := F) (N := 3800) h5 hd (by omega) h8 (by decide)
  rw [a6, ob_i, cp_f h6 e0]
  obtain ⟨w7, a7, h7⟩ := cp_next (F := F) (N := 3800) h6 hd (by omega) h8 (by decide)
  rw [a7, ob_i, cp_f h7 e0]
  obtain ⟨w8, a8, h8'⟩ := cp_next (F := F) (N := 3800) h7 hd (by omega) h8 (by decide)
  rw [a8, ob_i, cp_f h8' e0]
  obtain ⟨w9, a9, h9⟩ := cp_next (F := F) (N := 3800) h8' hd (by omega) h8 (by decide)
  rw [a9, ob_i, cp_f h9 e0]
  obtain ⟨w10, a10, h10⟩ := cp_next (F := F) (N := 3800) h9 hd (by omega) h8 (by decide)
  rw [a10, ob_i]
  obtain ⟨w11, a11, s11, h11⟩ := c_copyRow (F := F) (o0 := o1 + 11) (o1 := o0 + 11) (N := 40) (n := 40) (u := w10) (Nat.le_refl _) (by decide)
  rw [show g_X9_copyRow F (o1 + 11) 40 (o0 + 11) 40 40 w10 = some w11 from a11, ob_i]
  refine ⟨w11, rfl, ⟨s11.1.trans h10.1.1, s11.2.trans h10.1.2⟩, fun j i => ?_⟩
  rw [h11]
  have u0 : ∀ j i, (sF u o0 11 (nI n)).2.1 j i = u.2.1 j i := fun _ _ => rfl
  by_cases q : j = o0 + 11 ∧ i < 40
  · rw [if_pos q, if_neg (by omega), if_pos q, h10.2, if_neg (by omega), u0]
  · rw [if_neg q, h10.2]
    by_cases q2 : (o0 + 1 ≤ j ∧ j ≤ o0 + 10) ∧ i < n
    · rw [if_pos q2, if_pos q2, u0]
    · rw [if_neg q2, if_neg q2, if_neg q, u0]
theorem c_holdTake (hn : rF u o1 1 = nI n) (h8 : n ≤ 64) (hd : o0 + 11 < o1 ∨ o1 + 11 < o0) : ∃ w, g_X2_takeFrom F o0 o1 u = some w ∧ w.2.2 = u.2.2 ∧ (∀ j i, w.2.1 j i = if j = o0 + 1 ∧ i < n then u.2.1 (o1 + 1) i else u.2.1 j i) ∧ (∀ k, k < 100 * o0 + 1 ∨ 100 * o0 + 4 < k → w.1 k = u.1 k) ∧ rF w o0 1 = rF u o1 1 ∧ rF w o0 2 = rF u o1 2 ∧ rF w o0 3 = rF u o1 3 ∧ rF w o0 4 = rF u o1 4 := by
  unfold g_X2_takeFrom
  rw [hn, lt1_i]
  have e0 : rF (sF u o0 1 (nI n)) o0 1 = nI n := sF_y
  obtain ⟨w1, a1, s1, h1⟩ := c_copyRow (F := F) (o0 := o1 + 1) (o1 := o0 + 1) (N := 64) (n := n) (u := sF u o0 1 (nI n)) h8 (by decide)
  rw [e0, a1, ob_i, lt1_i, lt1_i, lt1_i]
  have f1 : ∀ k, k ≠ 100 * o0 + 1 → w1.1 k = u.1 k := fun k hk => by rw [s1.1, sF_n hk]
  have e2 : rF w1 o1 2 = rF u o1 2 := f1 _ (by omega)
  have e3 : rF (sF w1 o0 2 (rF u o1 2)) o1 3 = rF u o1 3 := by
    show (sF w1 o0 2 _).1 (100 * o1 + 3) = _
    rw [sF_n (by omega)]
    exact f1 _ (by omega)
  rw [e2, e3]
  have e4 : rF (sF (sF w1 o0 2 (rF u o1 2)) o0 3 (rF u o1 3)) o1 4 = rF u o1 4 := by
    show (sF (sF w1 o0 2 _) o0 3 _).1 (100 * o1 + 4) = _
    rw [sF_n (by omega), sF_n (by omega)]
    exact f1 _ (by omega)
  rw [e4]
  refine ⟨_, rfl, s1.2, fun j i => h1 j i, fun k hk => ?_, ?_, ?_, ?_, sF_y⟩
  · rw [sF_n (by omega), sF_n (by omega), sF_n (by omega)]
    exact f1 k (by omega)
  · show (sF (sF (sF w1 o0 2 _) o0 3 _) o0 4 _).1 (100 * o0 + 1) = _
    rw [sF_n (by omega), sF_n (by omega), sF_n (by omega), s1.1]
    first | exact e0 | exact e0.trans hn.symm
  · show (sF (sF (sF w1 o0 2 _) o0 3 _) o0 4 _).1 (100 * o0 + 2) = _
    rw [sF_n (by omega), sF_n (by omega)]
    exact sF_y
  · show (sF (sF (sF w1 o0 2 _) o0 3 _) o0 4 _).1 (100 * o0 + 3) = _
    rw [sF_n (by omega)]
    exact sF_y
/-- how far the rows of a run are taken -/
def rowN (z L P C H T : Nat) : Nat := if z ≤ 5 then 64 else if z ≤ 11 then L else if z ≤ 22 then P else if z = 23 then 40 else if z ≤ 27 then C else if z ≤ 29 then H else T + 1
theorem c_take7 {L P C H T : Nat} {x : Int32} (hd : o0 + 33 < o1 ∨ o1 + 33 < o0) (hL : rF u (o1 + 6) 5 = nI L) (hL8 : L ≤ 800) (hP : rF u (o1 + 12) 11 = nI P) (hP8 : P ≤ 3800) (hC : rF u (o1 + 24) 3 = nI C) (hC8 : C ≤ 100) (hH : rF u (o1 + 28) 1 = nI H) (hH8 : H ≤ 64) (hT : rF u o1 9 = nI T) (hT8 : T ≤ 3000) (hF : 10000 < F) : ∃ w, g_X7_takeFrom F o0 o1 x u = some w ∧ w.2.2 = u.2.2 ∧ (∀ j, (j ≤ o0 ∨ o0 + 33 < j) → w.2.1 j = u.2.1 j) ∧ (∀ k, (k < 100 * o0 ∨ 100 * (o0 + 34) ≤ k) → w.1 k = u.1 k) ∧ (∀ z i, 2 ≤ z → z ≤ 33 → z ≠ 6 → z ≠ 12 → z ≠ 24 → z ≠ 28 → i < rowN z L P C H T → w.2.1 (o0 + z) i = u.2.1 (o1 + z) i) ∧ (rF w (o0 + 6) 5 = nI L ∧ rF w (o0 + 12) 11 = nI P ∧ rF w (o0 + 24) 3 = nI C ∧ rF w (o0 + 28) 1 = nI H ∧ rF w (o0 + 28) 2 = rF u (o1 + 28) 2 ∧ rF w (o0 + 28) 3 = rF u (o1 + 28) 3 ∧ rF w (o0 + 28) 4 = rF u (o1 + 28) 4) ∧ rF w o0 9 = nI T ∧ rF w o0 10 = rF u o1 10 ∧ rF w o0 12 = rF u o1 12 ∧ rF w o0 13 = rF u o1 13 ∧ rF w o0 14 = x := by
  unfold g_X7_takeFrom
  obtain ⟨w1, a1, s1, h1⟩ := c_takeFromP (F := F) (o := o0 + 1) (p := o1 + 1) (u := u) (by omega) (by omega)
  rw [a1, ob_i]
  have f1 : ∀ k, w1.1 k = u.1 k := fun k => by rw [s1.1]
  obtain ⟨w2, a2, s2, h2⟩ := c_logTake (F := F) (o0 := o0 + 6) (o1 := o1 + 6) (u := w1) (n := L) ((f1 _).trans hL) hL8 (by omega)
  rw [a2, ob_i]
  have f2 : ∀ k, k ≠ 100 * (o0 + 6) + 5 → w2.1 k = u.1 k := fun k hk => by rw [s2.1, sF_n hk, f1]
  obtain ⟨w3, a3, s3, h3⟩ := c_putsTake (F := F) (o0 := o0 + 12) (o1 := o1 + 12) (u := w2) (n := P) ((f2 _ (by omega)).trans hP) hP8 (by omega)
  rw [a3, ob_i]
  have f3 : ∀ k, k ≠ 100 * (o0 + 6) + 5 → k ≠ 100 * (o0 + 12) + 11 → w3.1 k = u.1 k := fun k k1 k2 => by rw [s3.1, sF_n k2, f2 k k1]
  obtain ⟨w4, a4, s4, h4⟩ := c_callsTake (F := F) (o0 := o0 + 24) (o1 := o1 + 24) (u := w3) (n := C) ((f3 _ (by omega) (by omega)).trans hC) hC8 (by omega)
  rw [a4, ob_i]
  have f4 : ∀ k, k ≠ 100 * (o0 + 6) + 5 → k ≠ 100 * (o0 + 12) + 11 → k ≠ 100 * (o0 + 24) + 3 → w4.1 k = u.1 k := fun k k1 k2 k3 => by rw [s4.1, sF_n k3, f3 k k1 k2]
  obtain ⟨w5, a5, s5, h5, f5, g1, g2, g3, g4⟩ := c_holdTake (F := F) (o0 := o0 + 28) (o1 := o1 + 28) (u := w4) (n := H) ((f4 _ (by omega) (by omega) (by omega)).trans hH) hH8 (by omega)
  rw [a5, ob_i, lt1_i]
  have f5' : ∀ k, k ≠ 100 * (o0 + 6) + 5 → k ≠ 100 * (o0 + 12) + 11 → k ≠ 100 * (o0 + 24) + 3 → (k < 100 * (o0 + 28) + 1 ∨ 100 * (o0 + 28) + 4 < k) → w5.1 k = u.1 k := fun k k1 k2 k3 k4 => (f5 k k4).trans (f4 k k1 k2 k3)
  have e9 : rF w5 o1 9 = nI T := (f5' _ (by omega) (by omega) (by omega) (by omega)).trans hT
  rw [e9]
  have e9' : rF (sF w5 o0 9 (nI T)) o0 9 = nI T := sF_y
  obtain ⟨w6, a6, s6, h6⟩ := c_copyRow (F := F) (o0 := o1 + 30) (o1 := o0 + 30) (N := 3001) (n := T + 1) (u := sF w5 o0 9 (nI T)) (by omega) (by decide)
  have e96 : rF w6 o0 9 = nI T := by
    unfold rF
    rw [s6.1]
    exact e9'
  rw [e9', nI_1, a6, ob_i, e96, nI_1]
  obtain ⟨w7, a7, s7, h7⟩ := c_copyRow (F := F) (o0 := o1 + 31) (o1 := o0 + 31) (N := 3001) (n := T + 1) (u := w6) (by omega) (by decide)
  have e97 : rF w7 o0 9 = nI T := by
    unfold rF
    rw [s7.1]
    exact e96
  rw [a7, ob_i, e97, nI_1]
  obtain ⟨w8, a8, s8, h8⟩ := c_copyRow (F := F) (o0 := o1 + 32) (o1 := o0 + 32) (N := 3001) (n := T + 1) (u := w7) (by omega) (by decide)
  have e98 : rF w8 o0 9 = nI T := by
    unfold rF
    rw [s8.1]
    exact e97
  rw [a8, ob_i, e98, nI_1]
  obtain ⟨w9, a9, s9, h9⟩ := c_copyRow (F := F) (o0 := o1 + 33) (o1 := o0 + 33) (N := 3001) (n := T + 1) (u := w8) (by omega) (by decide)
  rw [a9, ob_i, lt1_i, lt1_i, lt1_i, lt1_i]
  have f9 : ∀ k, w9.1 k = (sF w5 o0 9 (nI T)).1 k := fun k => by rw [s9.1, s8.1, s7.1, s6.1]
  have F9 : ∀ k, k ≠ 100 * o0 + 9 → k ≠ 100 * (o0 + 6) + 5 → k ≠ 100 * (o0 + 12) + 11 → k ≠ 100 * (o0 + 24) + 3 → (k < 100 * (o0 + 28) + 1 ∨ 100 * (o0 + 28) + 4 < k) → w9.1 k = u.1 k := fun k k0 k1 k2 k3 k4 => by rw [f9, sF_n k0, f5' k k1 k2 k3 k4]
  have x10 : rF w9 o1 10 = rF u o1 10 := F9 _ (by omega) (by omega) (by omega) (by omega) (by omega)
  have x12 : rF (sF w9 o0 10 (rF u o1 10)) o1 12 = rF u o1 12 := by
    show (sF w9 o0 10 _).1 (100 * o1 + 12) = _
    rw [sF_n (by omega)]
    exact F9 _ (by omega) (by omega) (by omega) (by omega) (by omega)
  rw [x10, x12]
  have x13 : rF (sF (sF w9 o0 10 (rF u o1 10)) o0 12 (rF u o1 12)) o1 13 = rF u o1 13 := by
    show (sF (sF w9 o0 10 _) o0 12 _).1 (100 * o1 + 13) = _
    rw [sF_n (by omega), sF_n (by omega)]
    exact F9 _ (by omega) (by omega) (by omega) (by omega) (by omega)
  rw [x13]
  -- the arrays
  have A9 : ∀ j i, w9.2.1 j i = if (o0 + 30 ≤ j ∧ j ≤ o0 + 33) ∧ i < T + 1 then w5.2.1 (j - o0 + o1) i else w5.2.1 j i := fun j i => by
    have u0 : ∀ j i, (sF w5 o0 9 (nI T)).2.1 j i = w5.2.1 j i := fun _ _ => rfl
    rw [h9]
    by_cases z : i < T + 1
    · by_cases j33 : j = o0 + 33
      · subst j33
        rw [if_pos ⟨rfl, z⟩, h8, if_neg (by omega), h7, if_neg (by omega), h6, if_neg (by omega), u0, if_pos (by omega), show o0 + 33 - o0 + o1 = o1 + 33 by omega]
      rw [if_neg (fun y => j33 y.1), h8]
      by_cases j32 : j = o0 + 32
      · subst j32
        rw [if_pos ⟨rfl, z⟩, h7, if_neg (by omega), h6, if_neg (by omega), u0, if_pos (by omega), show o0 + 32 - o0 + o1 = o1 + 32 by omega]
      rw [if_neg (fun y => j32 y.1), h7]
      by_cases j31 : j = o0 + 31
      · subst j31
        rw [if_pos ⟨rfl, z⟩, h6, if_neg (by omega), u0, if_pos (by omega), show o0 + 31 - o0 + o1 = o1 + 31 by omega]
      rw [if_neg (fun y => j31 y.1), h6]
      by_cases j30 : j = o0 + 30
      · subst j30
        rw [if_pos ⟨rfl, z⟩, u0, if_pos (by omega), show o0 + 30 - o0 + o1 = o1 + 30 by omega]
      rw [if_neg (fun y => j30 y.1), u0, if_neg (by omega)]
    · rw [if_neg (fun y => z y.2), h8, if_neg (fun y => z y.2), h7, if_neg (fun y => z y.2), h6, if_neg (fun y => z y.2), u0, if_neg (fun y => z y.2)]
  have A5 : ∀ j i, (j ≤ o0 + 28 ∨ o0 + 30 ≤ j) → w5.2.1 j i = w4.2.1 j i := fun j i hj => by rw [h5, if_neg (by omega)]
  have A4 : ∀ j i, (j ≤ o0 + 24 ∨ o0 + 28 ≤ j) → w4.2.1 j i = w3.2.1 j i := fun j i hj => by rw [h4, if_neg (by omega)]
  have A3 : ∀ j i, (j ≤ o0 + 12 ∨ o0 + 24 ≤ j) → w3.2.1 j i = w2.2.1 j i := fun j i hj => by rw [h3, if_neg (by omega), if_neg (by omega)]
  have A2 : ∀ j i, (j ≤ o0 + 6 ∨ o0 + 12 ≤ j) → w2.2.1 j i = w1.2.1 j i := fun j i hj => by rw [h2, if_neg (by omega)]; rfl
  have A1 : ∀ j i, (j ≤ o0 + 1 ∨ o0 + 6 ≤ j) → w1.2.1 j i = u.2.1 j i := fun j i hj => by rw [h1, if_neg (by omega)]
  have out : ∀ j i, (j ≤ o0 ∨ o0 + 33 < j) → w5.2.1 j i = u.2.1 j i := fun j i hj => by rw [A5 j i (by omega), A4 j i (by omega), A3 j i (by omega), A2 j i (by omega), A1 j i (by omega)]
  refine ⟨_, rfl, ?_, fun j hj => ?_, fun k hk => ?_, fun z i z1 z2 z3 z4 z5 z6 hi => ?_, ⟨?_, ?_, ?_, ?_, ?_, ?_, ?_⟩, ?_, ?_, ?_, ?_, sF_y⟩
  · show w9.2.2 = _
    rw [s9.2, s8.2, s7.2, s6.2]
    show w5.2.2 = _
    rw [s5, s4.2]
    show w3.2.2 = _
    rw [s3.2]
    show w2.2.2 = _
    rw [s2.2]
    show w1.2.2 = _
    exact s1.2
  · funext i
    show w9.2.1 j i = _
    rw [A9, if_neg (by omega), out j i hj]
  · rw [sF_n (by omega), sF_n (by omega), sF_n (by omega), sF_n (by omega)]
    exact F9 k (by omega) (by omega) (by omega) (by omega) (by omega)
  · show w9.2.1 (o0 + z) i = _
    unfold rowN at hi
    by_cases y5 : z ≤ 5
    · rw [if_pos y5] at hi
      rw [A9, if_neg (by omega), A5 _ _ (by omega), A4 _ _ (by omega), A3 _ _ (by omega), A2 _ _ (by omega), h1, if_pos (by omega), show o0 + z - (o0 + 1) + (o1 + 1) = o1 + z by omega]
    rw [if_neg y5] at hi
    by_cases y11 : z ≤ 11
    · rw [if_pos y11] at hi
      rw [A9, if_neg (by omega), A5 _ _ (by omega), A4 _ _ (by omega), A3 _ _ (by omega), h2, if_pos (by omega), show o0 + z - (o0 + 6) + (o1 + 6) = o1 + z by omega]
      show w1.2.1 (o1 + z) i = _
      rw [A1 _ _ (by omega)]
    rw [if_neg y11] at hi
    by_cases y22 : z ≤ 22
    · rw [if_pos y22] at hi
      rw [A9, if_neg (by omega), A5 _ _ (by omega), A4 _ _ (by omega), h3, if_pos (by omega), show o0 + z - (o0 + 12) + (o1 + 12) = o1 + z by omega, A2 _ _ (by omega), A1 _ _ (by omega)]
    rw [if_neg y22] at hi
    by_cases y23 : z = 23
    · rw [if_pos y23] at hi
      subst y23
      rw [A9, if_neg (by omega), A5 _ _ (by omega), A4 _ _ (by omega), h3, if_neg (by omega), if_pos (by omega), show o1 + 12 + 11 = o1 + 23 from rfl, A2 _ _ (by omega), A1 _ _ (by omega)]
    rw [if_neg y23] at hi
    by_cases y27 : z ≤ 27
    · rw [if_pos y27] at hi
      rw [A9, if_neg (by omega), A5 _ _ (by omega), h4, if_pos (by omega), show o0 + z - (o0 + 24) + (o1 + 24) = o1 + z by omega, A3 _ _ (by omega), A2 _ _ (by omega), A1 _ _ (by omega)]
    rw [if_neg y27] at hi
    by_cases y29 : z ≤ 29
    · rw [if_pos y29] at hi
      have e29 : z = 29 := by omega
      subst e29
      rw [A9, if_neg (by omega), h5, if_pos (by omega), show o1 + 28 + 1 = o1 + 29 from rfl, A4 _ _ (by omega), A3 _ _ (by omega), A2 _ _ (by omega), A1 _ _ (by omega)]
    rw [if_neg y29] at hi
    rw [A9, if_pos (by omega), show o0 + z - o0 + o1 = o1 + z by omega, out _ _ (by omega)]
  · show (sF (sF (sF (sF w9 o0 10 _) o0 12 _) o0 13 _) o0 14 _).1 (100 * (o0 + 6) + 5) = _
    rw [sF_n (by omega), sF_n (by omega), sF_n (by omega), sF_n (by omega), f9, sF_n (by omega), f5 _ (by omega), s4.1, sF_n (by omega), s3.1, sF_n (by omega), s2.1]
    exact sF_y
  · show (sF (sF (sF (sF w9 o0 10 _) o0 12 _) o0 13 _) o0 14 _).1 (100 * (o0 + 12) + 11) = _
    rw [sF_n (by omega), sF_n (by omega), sF_n (by omega), sF_n (by omega), f9, sF_n (by omega), f5 _ (by omega), s4.1, sF_n (by omega), s3.1]
    exact sF_y
  · show (sF (sF (sF (sF w9 o0 10 _) o0 12 _) o0 13 _) o0 14 _).1 (100 * (o0 + 24) + 3) = _
    rw [sF_n (by omega), sF_n (by omega), sF_n (by omega), sF_n (by omega), f9, sF_n (by omega), f5 _ (by omega), s4.1]
    exact sF_y
  · show (sF (sF (sF (sF w9 o0 10 _) o0 12 _) o0 13 _) o0 14 _).1 (100 * (o0 + 28) + 1) = _
    rw [sF_n (by omega), sF_n (by omega), sF_n (by omega), sF_n (by omega), f9, sF_n (by omega)]
    exact g1.trans ((f4 _ (by omega) (by omega) (by omega)).trans hH)
  · show (sF (sF (sF (sF w9 o0 10 _) o0 12 _) o0 13 _) o0 14 _).1 (100 * (o0 + 28) + 2) = _
    rw [sF_n (by omega), sF_n (by omega), sF_n (by omega), sF_n (by omega), f9, sF_n (by omega)]
    exact g2.trans (f4 _ (by omega) (by omega) (by omega))
  · show (sF (sF (sF (sF w9 o0 10 _) o0 12 _) o0 13 _) o0 14 _).1 (100 * (o0 + 28) + 3) = _
    rw [sF_n (by omega), sF_n (by omega), sF_n (by omega), sF_n (by omega), f9, sF_n (by omega)]
    exact g3.trans (f4 _ (by omega) (by omega) (by omega))
  · show (sF (sF (sF (sF w9 o0 10 _) o0 12 _) o0 13 _) o0 14 _).1 (100 * (o0 + 28) + 4) = _
    rw [sF_n (by omega), sF_n (by omega), sF_n (by omega), sF_n (by omega), f9, sF_n (by omega)]
    exact g4.trans (f4 _ (by omega) (by omega) (by omega))
  · show (sF (sF (sF (sF w9 o0 10 _) o0 12 _) o0 13 _) o0 14 _).1 (100 * o0 + 9) = _
    rw [sF_n (by omega), sF_n (by omega), sF_n (by omega), sF_n (by omega), f9]
    exact sF_y
  · show (sF (sF (sF (sF w9 o0 10 _) o0 12 _) o0 13 _) o0 14 _).1 (100 * o0 + 10) = _
    rw [sF_n (by omega), sF_n (by omega), sF_n (by omega)]
    exact sF_y
  · show (sF (sF (sF (sF w9 o0 10 _) o0 12 _) o0 13 _) o0 14 _).1 (100 * o0 + 12) = _
    rw [sF_n (by omega), sF_n (by omega)]
    exact sF_y
  · show (sF (sF (sF (sF w9 o0 10 _) o0 12 _) o0 13 _) o0 14 _).1 (100 * o0 + 13) = _
    rw [sF_n (by omega)]
    exact sF_y
end XZ
end W_73
section W_74
-- 97zzi.keep
/-! the class and the reference: keep and begin on both sides -/
section YA
variable {pB : Prop} {F q q' T N k o0 o1 K t : Nat} {d x : Int32} {u w uc um um' : rg_U} {m : Row} {R : Nat → Row} {l : Nat → Nat}
theorem vS_cN {f g : Nat → Int32} (h : ∀ n, n < N → f n = g n) (hx : isPt N x) (hN : N < 2 ^ 31) : vS f d x = vS g d x := by
  rcases hx with rfl | ⟨n, hn, rfl⟩
  · rw [vS_0, vS_0]
  · rw [vS_n (by omega), vS_n (by omega), h n hn]
theorem PI_mv (h : PI u q T N) (hf : rF w q' 11 = nI N) (ha : ∀ z, 1 ≤ z → z ≤ 6 → ∀ n, n < N → w.2.1 (q' + z) n = u.2.1 (q + z) n) (hb : ∀ p, p < 40 → w.2.1 (q' + 11) p = u.2.1 (q + 11) p) : PI w q' T N := by
  obtain ⟨h1, h2, h3, h4, h5, h6⟩ := h
  have hl : ∀ p n, n ≤ N → lat (w.2.1 (q' + 2)) p n = lat (u.2.1 (q + 2)) p n := fun p n hn => lat_c n (fun i hi => ha 2 (by omega) (by omega) i (by omega))
  refine ⟨hf, h2, h3, fun i j hij hj => ?_, fun p hp => ?_, fun n hn => ?_⟩
  · rw [ha 1 (by omega) (by omega) i (by omega), ha 1 (by omega) (by omega) j hj]
    exact h4 i j hij hj
  · rw [hb p hp, hl p N (Nat.le_refl _)]
    exact h5 p hp
  · obtain ⟨s, p, b1, b2, b3, b4, b5, b6⟩ := h6 n hn
    have hpt : isPt N (u.2.1 (q + 6) n) := by rw [b5]; exact lat_ok (by omega)
    refine ⟨s, p, b1, b2, by rw [ha 1 (by omega) (by omega) n hn]; exact b3, by rw [ha 2 (by omega) (by omega) n hn]; exact b4, by rw [ha 6 (by omega) (by omega) n hn, hl p n (by omega)]; exact b5, ?_⟩
    rw [ha 5 (by omega) (by omega) n hn, ha 6 (by omega) (by omega) n hn, ha 3 (by omega) (by omega) n hn, ha 4 (by omega) (by omega) n hn, vS_cN (fun i hi => ha 5 (by omega) (by omega) i hi) hpt (by omega), vS_cN (fun i hi => ha 3 (by omega) (by omega) i hi) hpt (by omega), vS_cN (fun i hi => ha 4 (by omega) (by omega) i hi) hpt (by omega)]
    exact b6
theorem PRow_mv (h : PRow u q k m) (hk : k ≤ N) (hN : N < 2 ^ 31) (ha : ∀ z, 1 ≤ z → z ≤ 6 → ∀ n, n < N → w.2.1 (q' + z) n = u.2.1 (q + z) n) : PRow w q' k m := by
  intro p hp
  have hl : lat (w.2.1 (q' + 2)) p k = lat (u.2.1 (q + 2)) p k := lat_c k (fun i hi => ha 2 (by omega) (by omega) i (by omega))
  have hpt : isPt N (lat (u.2.1 (q + 2)) p k) := lat_ok hk
  rw [hl, vS_cN (fun i hi => ha 3 (by omega) (by omega) i hi) hpt hN, vS_cN (fun i hi => ha 4 (by omega) (by omega) i hi) hpt hN, vS_cN (fun i hi => ha 5 (by omega) (by omega) i hi) hpt hN]
  exact h p hp
theorem SI_mv (h : SI u o1 R t) (ha : ∀ z, 30 ≤ z → z ≤ 33 → ∀ s, s ≤ t → w.2.1 (o0 + z) s = u.2.1 (o1 + z) s) : SI w o0 R t := by
  obtain ⟨h1, h2, h3, h4⟩ := h
  refine ⟨by rw [ha 30 (by omega) (by omega) t (Nat.le_refl _)]; exact h1, by rw [ha 31 (by omega) (by omega) t (Nat.le_refl _)]; exact h2, by rw [ha 32 (by omega) (by omega) t (Nat.le_refl _)]; exact h3, KI_c h4 (fun s hs => ha 30 (by omega) (by omega) s (by omega)) (ha 33 (by omega) (by omega) t (Nat.le_refl _)) (fun _ _ => rfl)⟩
/-- a run is kept -/
theorem RR_mv {L P C H : Nat} (hR : RR pB uc um o1 4) (hro : runOK um 4) (hmv : mvR um um' 4 K) (hL : L = nr um 4) (hC : C = Cr um 4) (hP : rF uc (o1 + 12) 11 = nI P) (hP8 : P ≤ 3800) (hH : rF uc (o1 + 28) 1 = nI H) (hH8 : H ≤ 64) (hT : T = Tr um 4) (ha : ∀ z i, 2 ≤ z → z ≤ 33 → z ≠ 6 → z ≠ 12 → z ≠ 24 → z ≠ 28 → i < rowN z L P C H T → w.2.1 (o0 + z) i = uc.2.1 (o1 + z) i) (hf : rF w (o0 + 6) 5 = nI L ∧ rF w (o0 + 12) 11 = nI P ∧ rF w (o0 + 24) 3 = nI C ∧ rF w (o0 + 28) 1 = nI H ∧ rF w (o0 + 28) 2 = rF uc (o1 + 28) 2 ∧ rF w (o0 + 28) 3 = rF uc (o1 + 28) 3 ∧ rF w (o0 + 28) 4 = rF uc (o1 + 28) 4) (hg : rF w o0 9 = nI T ∧ rF w o0 10 = rF uc o1 10 ∧ rF w o0 12 = rF uc o1 12 ∧ rF w o0 13 = rF uc o1 13) : RR pB w um' o0 K := by
  subst hL hC hT
  have hCk := hro.2.2.2.2.2.2.2.2
  obtain ⟨r1, r2, r3, r4, r5, ⟨r6, r7, r8, r9⟩, N, hS⟩ := hR
  obtain ⟨e1, e2, e3, e4, e5, e6, e7, e8⟩ := mv_e hmv
  have eR : ∀ t, rpm um' K t = rpm um 4 t := fun t => by
    unfold rpm
    rw [e1, e2, e4]
  have eN : N = P := nI_inj (by have := hS.2.2.2.1.2.1; omega) (by omega) (hS.2.2.2.1.1.symm.trans hP)
  subst eN
  have hs := hmv.2.2.1
  unfold RR CG HB
  rw [e1, e2, e3, e4, e5, e6, e7, e8, eR, hs 25 (Or.inr (Or.inr (by decide))) (by decide), hs 26 (Or.inr (Or.inr (by decide))) (by decide), hs 27 (Or.inr (Or.inr (by decide))) (by decide)]
  have hp : ∀ z, 1 ≤ z → z ≤ 6 → ∀ n, n < N → w.2.1 (o0 + 12 + z) n = uc.2.1 (o1 + 12 + z) n := fun z z1 z2 n hn => by
    rw [Nat.add_assoc, Nat.add_assoc]
    exact ha (12 + z) n (by omega) (by omega) (by omega) (by omega) (by omega) (by omega) (by unfold rowN; rw [if_neg (by omega), if_neg (by omega), if_pos (by omega)]; exact hn)
  refine ⟨fun k hk => ?_, ⟨hf.1, fun k hk => ?_⟩, ⟨hf.2.2.1, fun i hi => ?_⟩, ?_, r5, ⟨hf.2.2.2.2.1.trans r6, hg.2.1.trans r7, fun hb => hg.2.2.1.trans (r8 hb), hg.2.2.2.trans r9⟩, N, ?_⟩
  · rw [ha 2 k (by omega) (by omega) (by omega) (by omega) (by omega) (by omega) hk, ha 3 k (by omega) (by omega) (by omega) (by omega) (by omega) (by omega) hk, ha 4 k (by omega) (by omega) (by omega) (by omega) (by omega) (by omega) hk, ha 5 k (by omega) (by omega) (by omega) (by omega) (by omega) (by omega) hk]
    exact r1 k hk
  · rw [ha 7 k (by omega) (by omega) (by omega) (by omega) (by omega) (by omega) hk, ha 8 k (by omega) (by omega) (by omega) (by omega) (by omega) (by omega) hk, ha 9 k (by omega) (by omega) (by omega) (by omega) (by omega) (by omega) hk, ha 10 k (by omega) (by omega) (by omega) (by omega) (by omega) (by omega) hk, ha 11 k (by omega) (by omega) (by omega) (by omega) (by omega) (by omega) hk]
    exact r2.2 k hk
  · have hC1 := hCk.1
    rw [ha 25 i (by omega) (by omega) (by omega) (by omega) (by omega) (by omega) hi, ha 26 i (by omega) (by omega) (by omega) (by omega) (by omega) (by omega) hi, ha 27 i (by omega) (by omega) (by omega) (by omega) (by omega) (by omega) hi, hmv.2.2.2.1 16 (by decide) (by decide) i (by omega), hmv.2.2.2.1 17 (by decide) (by decide) i (by omega), hmv.2.2.2.1 18 (by decide) (by decide) i (by omega)]
    exact r3.2 i hi
  · obtain ⟨h3, h4, n, f, h1, h64, hA, hl⟩ := r4
    have en : n = H := nI_inj (by omega) (by omega) (h1.symm.trans hH)
    subst en
    refine ⟨hf.2.2.2.2.2.1.trans h3, hf.2.2.2.2.2.2.trans h4, n, f, hf.2.2.2.1, h64, fun i hi => ?_, hl⟩
    rw [show o0 + 28 + 1 = o0 + 29 from rfl, ha 29 i (by omega) (by omega) (by omega) (by omega) (by omega) (by omega) hi]
    exact hA i hi
  · have h11 : ∀ p, p < 40 → w.2.1 (o0 + 12 + 11) p = uc.2.1 (o1 + 12 + 11) p := fun p hp' => ha 23 p (by omega) (by omega) (by omega) (by omega) (by omega) (by omega) hp'
    have hrun : RunS w o0 (Tr um 4) N (fun t => (rpm um 4 t).1) (fun t => (rpm um 4 t).2) := by
      obtain ⟨a1, a2, a3, a4, a5⟩ := hS
      refine ⟨hg.1, a2, fun t ht => SI_mv (a3 t ht) (fun z z1 z2 s hs' => ha z s (by omega) (by omega) (by omega) (by omega) (by omega) (by omega) (by unfold rowN; rw [if_neg (by omega), if_neg (by omega), if_neg (by omega), if_neg (by omega), if_neg (by omega), if_neg (by omega)]; omega)), PI_mv a4 hf.2.1 hp h11, fun t ht => ?_⟩
      have ec : cP (w.2.1 (o0 + 13)) t N = cP (uc.2.1 (o1 + 13)) t N := cP_c N (fun i hi => hp 1 (by omega) (by omega) i hi)
      rw [ec]
      exact ⟨PRow_mv (a5 t ht).1 (cP_le N) (by omega) hp, (a5 t ht).2⟩
    exact RunS_c hrun (fun t _ => by rw [eR]) (fun t _ => by rw [eR])
/-- a run begins -/
theorem RR_new {v : rg_U} {U D : Nat} (hv : ∀ z k, z < 4 → k < 64 → v.2.1 (118 + z) k = um.2.1 (1 + z) k) (h9 : rF v 0 9 = um.1 4) (h10 : rF v 0 10 = um.1 5) (hU : um.1 4 = nI U) (hD : um.1 5 = nI D) (hok : okP (Pm um' 4)) (hU2 : U ≤ 64) (hD2 : D ≤ 8) (hA : ∀ j i, um'.2.1 j i = m_begunA um j i) : RR pB (sF (sF (c_begun v) 6 1 0) 6 2 0) um' 116 4 := by
  have e4 : ∀ j, (15 ≤ j ∧ j ≤ 27 ∧ j ≠ 16 ∧ j ≠ 17 ∧ j ≠ 18 ∧ j ≠ 20 ∧ j ≠ 22) → um'.2.1 j 4 = if j = 26 then 1 else if j = 24 then um.1 5 else if j = 23 then um.1 4 else 0 := fun j hj => by
    rw [hA]
    unfold m_begunA
    rw [if_neg (by omega)]
    rcases (show j = 15 ∨ j = 19 ∨ j = 21 ∨ j = 23 ∨ j = 24 ∨ j = 25 ∨ j = 26 ∨ j = 27 by omega) with rfl | rfl | rfl | rfl | rfl | rfl | rfl | rfl <;> simp
  have en : nr um' 4 = 0 := by
    unfold nr
    rw [e4 15 (by omega)]
    rfl
  have eT : Tr um' 4 = 0 := by
    unfold Tr
    rw [e4 21 (by omega)]
    rfl
  have eC : Cr um' 4 = 0 := by
    unfold Cr
    rw [e4 19 (by omega)]
    rfl
  have eU : Ur um' 4 = U := by
    unfold Ur
    rw [e4 23 (by omega)]
    show tn (um.1 4) = U
    rw [hU, tnn (by omega)]
  have eD : Dr um' 4 = D := by
    unfold Dr
    rw [e4 24 (by omega)]
    show tn (um.1 5) = D
    rw [hD, tnn (by omega)]
  have eH : ∀ k, k ≤ 3000 → Hm um' 4 k = if k = 0 then 1 else 0 := fun k hk => by
    rw [Hm_k (by omega), hA]
    unfold m_begunA
    rw [if_neg (by omega), if_neg (by omega), if_neg (by omega), if_neg (by omega), if_neg (by omega), if_neg (by omega), if_neg (by omega), if_pos (by omega)]
    by_cases q : k = 0
    · rw [if_pos (by omega), if_pos q]
    · rw [if_neg (by omega), if_neg q]
  have eP : ∀ z k, z < 4 → k < 64 → um'.2.1 (6 + z) (64 * 4 + k) = um.2.1 (1 + z) k := fun z k hz hk => by
    rw [hA]
    unfold m_begunA
    rw [if_neg (by omega), if_neg (by omega), if_neg (by omega), if_neg (by omega), if_neg (by omega), if_neg (by omega), if_neg (by omega), if_neg (by omega), if_neg (by omega), if_neg (by omega), if_neg (by omega), if_pos (by omega), show 6 + z - 5 = 1 + z by omega, show 64 * 4 + k - 256 = k by omega]
  have eR : rpm um' 4 0 = (zrow, 0) := by
    unfold rpm
    rw [en]
    exact (okW_new hok).2
  refine ⟨fun k hk => ?_, ⟨?_, fun k hk => ?_⟩, ⟨?_, fun i hi => ?_⟩, ⟨?_, ?_, 1, fun _ => 0, ?_, by omega, fun i hi => ?_, fun i j hij hj => by omega, fun k => ?_⟩, fun k hk hz => ?_, ⟨?_, ?_, ?_, ?_⟩, 0, ?_, by rw [eT]; omega, fun t ht => ?_, ⟨?_, by omega, by rw [eT]; omega, fun i j _ hj => by omega, fun p hp => ?_, fun n hn => by omega⟩, fun t ht => ?_⟩
  · rw [Pm_0 hk, Pm_1 hk, Pm_2 hk, Pm_3 hk, eP 0 k (by omega) hk, eP 1 k (by omega) hk, eP 2 k (by omega) hk, eP 3 k (by omega) hk]
    exact ⟨hv 0 k (by omega) hk, hv 1 k (by omega) hk, hv 2 k (by omega) hk, hv 3 k (by omega) hk⟩
  · rw [en]; rfl
  · rw [en] at hk; omega
  · rw [eC]; rfl
  · rw [eC] at hi; omega
  · rw [eU, ← hU, ← h9]; rfl
  · rw [eD, ← hD, ← h10]; rfl
  · rfl
  · rw [show i = 0 by omega, Nat.zero_mul]; rfl
  · constructor
    · rintro ⟨a, b⟩
      rw [eH k a] at b
      by_cases y : k = 0
      · exact ⟨0, by omega, y.symm⟩
      · rw [if_neg y] at b; exact absurd rfl b
    · rintro ⟨i, hi, e⟩
      have e : 0 = k := e
      subst e
      rw [eH 0 (by omega), if_pos rfl]
      exact ⟨by omega, by decide⟩
  · rw [eH k hk] at hz
    by_cases y : k = 0
    · exact Or.inl y
    · rw [if_neg y] at hz; exact absurd rfl hz
  · rw [e4 26 (by omega)]; rfl
  · rw [eT, eR]; rfl
  · intro _
    rw [e4 25 (by omega)]; rfl
  · rw [e4 27 (by omega)]; rfl
  · rw [eT]; rfl
  · have t0 : t = 0 := by rw [eT] at ht; omega
    subst t0
    unfold SI KI
    dsimp only
    rw [eR]
    refine ⟨?_, ?_, ?_, 0, by omega, rfl, fun _ => ?_, fun e he => by omega⟩
    · rfl
    · rfl
    · rfl
    · rfl
  · rfl
  · show (if p < 40 then (-1 : Int32) else _) = _
    rw [if_pos hp]
    rfl
  · have t0 : t = 0 := by rw [eT] at ht; omega
    subst t0
    dsimp only
    rw [eR]
    exact ⟨fun p hp => ⟨rfl, rfl, rfl⟩, Nat.zero_le _⟩
end YA
end W_74
section W_75
-- 97zzj.watch
/-! what is watched (the first rows: from the kit's laws, BITS.to-paste) -/
def bt (x : Int32) (i : Nat) : Bool := x.toBitVec.getLsbD i
theorem b_ext {x y : Int32} (h : ∀ i, i < 32 → bt x i = bt y i) : x = y := Int32.toBitVec_inj.mp (BitVec.eq_of_getLsbD_eq (fun i hi => h i hi))
theorem b_or (x y : Int32) (i : Nat) : bt (x ||| y) i = (bt x i || bt y i) := by unfold bt; rw [Int32.toBitVec_or, BitVec.getLsbD_or]
theorem b_and (x y : Int32) (i : Nat) : bt (x &&& y) i = (bt x i && bt y i) := by unfold bt; rw [Int32.toBitVec_and, BitVec.getLsbD_and]
theorem b_xor (x y : Int32) (i : Nat) : bt (x ^^^ y) i = (bt x i ^^ bt y i) := by unfold bt; rw [Int32.toBitVec_xor, BitVec.getLsbD_xor]
theorem b_0 (i : Nat) : bt 0 i = false := BitVec.getLsbD_zero
theorem s_l : ∀ n, n < 32 → ((nI n &&& 31).toBitVec.smod 32).toNat = n := by decide +kernel
theorem b_shl (n : Nat) (hn : n < 32) (x : Int32) {i : Nat} (hi : i < 32) : bt (x <<< (nI n &&& 31)) i = (decide (n ≤ i) && bt x (i - n)) := by
  unfold bt
  rw [Int32.toBitVec_shiftLeft]
  show (x.toBitVec <<< ((nI n &&& 31).toBitVec.smod 32).toNat).getLsbD i = _
  rw [s_l n hn, BitVec.getLsbD_shiftLeft]
  rcases Nat.lt_or_ge i n with h | h
  · simp [h, Nat.not_le.mpr h]
  · simp [hi, h, Nat.not_lt.mpr h]
theorem b_sshr (n : Nat) (hn : n < 32) (x : Int32) {i : Nat} (hi : i < 32) : bt (x >>> (nI n &&& 31)) i = if n + i < 32 then bt x (n + i) else bt x 31 := by
  unfold bt
  rw [Int32.toBitVec_shiftRight]
  show (x.toBitVec.sshiftRight ((nI n &&& 31).toBitVec.smod 32).toNat).getLsbD i = _
  rw [s_l n hn, BitVec.getLsbD_sshiftRight, BitVec.msb_eq_getLsbD_last]
  simp [hi]
theorem b_1 : ∀ i, i < 32 → bt 1 i = decide (i = 0) := by decide +kernel
theorem bt_and1 {x : Int32} : (x &&& 1) = if bt x 0 = true then 1 else 0 := by
  refine b_ext fun i hi => ?_
  rw [b_and, b_1 i hi]
  by_cases q : bt x 0 = true
  · rw [if_pos q, b_1 i hi]
    by_cases z : i = 0
    · rw [z, q]; rfl
    · rw [show decide (i = 0) = false from decide_eq_false z, Bool.and_false]
  · rw [if_neg q, b_0]
    by_cases z : i = 0
    · rw [z, (Bool.not_eq_true _).mp q, Bool.false_and]
    · rw [show decide (i = 0) = false from decide_eq_false z, Bool.and_false]
theorem bt_shr {x : Int32} {k : Nat} (hk : k < 32) : (dx_shr x (nI k) &&& 1) = 1 ↔ bt x k = true := by
  show ((x >>> (nI k &&& 31)) &&& 1) = 1 ↔ _
  rw [bt_and1, b_sshr k hk x (by omega), if_pos (c := k + 0 < 32) (by omega), Nat.add_zero]
  by_cases q : bt x k = true
  · rw [if_pos q]; exact ⟨fun _ => q, fun _ => rfl⟩
  · rw [if_neg q]; exact ⟨fun z => absurd z (by decide), fun z => absurd z q⟩
theorem bt_shl {k i : Nat} (hk : k < 32) (hi : i < 32) : bt (dx_shl 1 (nI k)) i = decide (i = k) := by
  show bt ((1 : Int32) <<< (nI k &&& 31)) i = _
  rw [b_shl k hk 1 hi, b_1 (i - k) (by omega)]
  by_cases q : i = k
  · rw [q, Nat.sub_self]; simp
  · rw [show decide (i = k) = false from decide_eq_false q]
    by_cases z : k ≤ i
    · rw [show decide (i - k = 0) = false from decide_eq_false (by omega), Bool.and_false]
    · rw [show decide (k ≤ i) = false from decide_eq_false z, Bool.false_and]
theorem wtB_bit {u : rg_U} {a i : Nat} (hi : i < 32) : ∀ n, n ≤ 32 → bt (wtB u a n) i = decide (i < n ∧ ¬ u.2.1 30 (a + i) = 0)
  | 0, _ => by
    show bt 0 i = _
    rw [b_0]
    exact (decide_eq_false (by omega)).symm
  | n + 1, hn => by
    show bt (wtB u a n ||| (if u.2.1 30 (a + n) = 0 then 0 else dx_shl 1 (nI n))) i = _
    rw [b_or, wtB_bit hi n (by omega)]
    by_cases q : i = n
    · subst q
      rw [show decide (i < i ∧ ¬ u.2.1 30 (a + i) = 0) = false from decide_eq_false (by omega), Bool.false_or]
      by_cases z : u.2.1 30 (a + i) = 0
      · rw [if_pos z, b_0]
        exact (decide_eq_false (fun y => y.2 z)).symm
      · rw [if_neg z, bt_shl (by omega) hi]
        rw [show decide (i = i) = true from decide_eq_true rfl]
        exact (decide_eq_true ⟨Nat.lt_succ_self i, z⟩).symm
    · have e : bt (if u.2.1 30 (a + n) = 0 then 0 else dx_shl 1 (nI n)) i = false := by
        by_cases z : u.2.1 30 (a + n) = 0
        · rw [if_pos z, b_0]
        · rw [if_neg z, bt_shl (by omega) hi]
          exact decide_eq_false q
      rw [e, Bool.or_false]
      by_cases z : i < n ∧ ¬ u.2.1 30 (a + i) = 0
      · rw [decide_eq_true z, decide_eq_true (show i < n + 1 ∧ ¬ u.2.1 30 (a + i) = 0 from ⟨by omega, z.2⟩)]
      · rw [decide_eq_false z, decide_eq_false (fun y => z ⟨by omega, y.2⟩)]
theorem wtB_c {u u' : rg_U} {a : Nat} (h : u'.2.1 30 = u.2.1 30) : ∀ n, wtB u' a n = wtB u a n
  | 0 => rfl
  | n + 1 => by
    unfold wtB
    rw [h, wtB_c h n]
/-- a place is watched, or no more -/
theorem wtB_x {u : rg_U} {a k n : Nat} {y : Int32} (hn : n ≤ 32) (hk : k < n) (hy : y = 0 ∨ y = 1) (h1 : u.2.1 30 (a + k) = 0 ∨ u.2.1 30 (a + k) = 1) (h : ¬ u.2.1 30 (a + k) = y) : wtB (rg_R u 30 (a + k) y) a n = wtB u a n ^^^ dx_shl 1 (nI k) := by
  refine b_ext fun i hi => ?_
  rw [b_xor, wtB_bit hi n hn, wtB_bit hi n hn, bt_shl (by omega) hi, R_s]
  by_cases q : i = k
  · subst q
    rw [pk_us, show decide (i = i) = true from decide_eq_true rfl]
    have e : (¬ y = 0) ↔ u.2.1 30 (a + i) = 0 := by
      rcases hy with rfl | rfl <;> rcases h1 with z | z
      · exact absurd z h
      · rw [z]; exact ⟨fun w => absurd rfl w, fun w => absurd w (by decide)⟩
      · rw [z]; exact ⟨fun _ => rfl, fun _ => by decide⟩
      · exact absurd z h
    by_cases z : u.2.1 30 (a + i) = 0
    · rw [decide_eq_true (show i < n ∧ ¬ y = 0 from ⟨hk, e.mpr z⟩), decide_eq_false (fun w => w.2 z)]
      rfl
    · rw [decide_eq_false (fun w => z (e.mp w.2)), decide_eq_true (show i < n ∧ ¬ u.2.1 30 (a + i) = 0 from ⟨hk, z⟩)]
      rfl
  · rw [pk_un (by omega), show decide (i = k) = false from decide_eq_false q, Bool.xor_false]
theorem wtB_o {u : rg_U} {a p : Nat} {y : Int32} : ∀ n, (∀ k, k < n → a + k ≠ p) → wtB (rg_R u 30 p y) a n = wtB u a n
  | 0, _ => rfl
  | n + 1, h => by
    unfold wtB
    rw [wtB_o n (fun k hk => h k (by omega)), R_s, pk_un (h n (by omega))]
def WR (uc um : rg_U) : Prop := rF uc 0 11 = wtB um 0 8 ∧ rF uc 0 12 = wtB um 8 32
section YB
variable {F p k : Nat} {uc um um' : rg_U}
theorem c_isWatched (h : WR uc um) (h01 : ∀ p, p < 40 → um.2.1 30 p = 0 ∨ um.2.1 30 p = 1) (hp : p < 40) : g_X9_isWatched F (nI p) uc = some (um.2.1 30 p) := by
  unfold g_X9_isWatched
  rw [if_neg (by rw [cl_place]; exact in_nI (a := 0) (b := 39) (by omega) (by omega) (by decide)), h.1, h.2]
  have fin : ∀ (a n k : Nat), n ≤ 32 → k < n → a + k = p → (if (dx_shr (wtB um a n) (nI k) &&& 1) = 1 then some (1 : Int32) else some 0) = some (um.2.1 30 p) := by
    intro a n k hn hk e
    by_cases z : um.2.1 30 p = 0
    · rw [if_neg, z]
      rw [bt_shr (by omega), wtB_bit (by omega) n hn, e]
      intro w
      exact absurd (of_decide_eq_true w).2 (fun y => y z)
    · rw [if_pos, (h01 p hp).resolve_left z]
      rw [bt_shr (by omega), wtB_bit (by omega) n hn, e]
      exact decide_eq_true ⟨hk, z⟩
  by_cases q : p < 8
  · rw [if_neg (show ¬ (8 : Int32) ≤ nI p from nI_ge (a := p) (b := 8) q (by decide))]
    exact fin 0 8 p (by omega) q (by omega)
  · rw [if_pos (show (8 : Int32) ≤ nI p from nI_le (a := 8) (b := p) (by omega) (by omega)), show nI p - 8 = nI (p - 8) from nI_sub (a := p) (b := 8) (by omega)]
    exact fin 8 32 (p - 8) (by omega) (by omega) (by omega)
theorem c_notWatched : g_X9_isWatched F (-1) uc = some 0 := by
  unfold g_X9_isWatched
  rw [if_pos (by decide)]
theorem wcS_same (h30 : um'.2.1 30 = um.2.1 30) (h : ∀ p, p < 40 → um'.2.1 28 (80 + p) = um.2.1 28 (80 + p)) : ∀ k, k ≤ 40 → wcS um' k = wcS um k
  | 0, _ => rfl
  | k + 1, hk => by
    unfold wcS
    rw [wcS_same h30 h k (by omega), h30, h k (by omega)]
theorem wcS_one (h30 : um'.2.1 30 = um.2.1 30) (h : ∀ q, q < 40 → q ≠ p → um'.2.1 28 (80 + q) = um.2.1 28 (80 + q)) (h1 : um'.2.1 28 (80 + p) = um.2.1 28 (80 + p) + 1) : ∀ k, k ≤ 40 → wcS um' k = wcS um k + (if p < k ∧ ¬ um.2.1 30 p = 0 then 1 else 0)
  | 0, _ => by rw [if_neg (by omega)]; rfl
  | k + 1, hk => by
    unfold wcS
    rw [wcS_one h30 h h1 k (by omega), h30]
    by_cases q : p = k
    · subst q
      rw [if_neg (c := p < p ∧ ¬ um.2.1 30 p = 0) (fun z => by omega), Int32.add_zero]
      by_cases z : um.2.1 30 p = 0
      · simp only [if_pos z]
        rw [if_neg (c := p < p + 1 ∧ ¬ um.2.1 30 p = 0) (fun y => y.2 z), Int32.add_zero, Int32.add_zero]
      · simp only [if_neg z]
        rw [if_pos (c := p < p + 1 ∧ ¬ um.2.1 30 p = 0) ⟨by omega, z⟩, h1, Int32.add_assoc]
    · rw [h k (by omega) (by omega)]
      by_cases z : p < k ∧ ¬ um.2.1 30 p = 0
      · rw [if_pos (c := p < k ∧ ¬ um.2.1 30 p = 0) z, if_pos (c := p < k + 1 ∧ ¬ um.2.1 30 p = 0) ⟨by omega, z.2⟩]
        generalize (if um.2.1 30 k = 0 then 0 else um.2.1 28 (80 + k)) = y
        rw [Int32.add_assoc, Int32.add_comm 1 y, ← Int32.add_assoc]
      · rw [if_neg (c := p < k ∧ ¬ um.2.1 30 p = 0) z, if_neg (c := p < k + 1 ∧ ¬ um.2.1 30 p = 0) (fun y => z ⟨by omega, y.2⟩), Int32.add_zero, Int32.add_zero]
end YB
end W_75
