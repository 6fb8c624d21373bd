/-! the class and the reference: a step on both sides -/
section XV
variable {pB : Prop} {F o W W' n' K : Nat} {uc um um' v : rg_U}
theorem caddS_25 {u : rg_U} {q C : Nat} {t p d : Int32} : (caddS u q C t p d).2.1 (q + 1) = upd (u.2.1 (q + 1)) C t ∧ (caddS u q C t p d).2.1 (q + 2) = upd (u.2.1 (q + 2)) C p ∧ (caddS u q C t p d).2.1 (q + 3) = upd (u.2.1 (q + 3)) C d := by
  unfold caddS
  rw [sF_A]
  exact ⟨by rw [R_n (by omega), R_n (by omega), R_s], by rw [R_n (by omega), R_s, R_n (by omega)], by rw [R_s, R_n (by omega), R_n (by omega)]⟩
/-- what holds when the next number comes -/
theorem HB_step {H H' : Nat → Int32} {U D T : Nat} (hU : 0 < U) (hD : 0 < D) (hT : T < 3000) (hHT : HT H U T) (h : ∀ k, k ≤ 3000 → ¬ H k = 0 → k = 0 ∨ (k ≤ T / U ∧ T / U < gw k D)) (hg : (¬ (T + 1) % U = 0 ∧ H' = H) ∨ ((T + 1) % U = 0 ∧ ∀ k, k ≤ 3000 → H' k = nH H D ((T + 1) / U) k)) : (∀ k, k ≤ 3000 → ¬ H' k = 0 → k = 0 ∨ (k ≤ (T + 1) / U ∧ (T + 1) / U < gw k D)) ∧ HT H' U (T + 1) := by
  rcases hg with ⟨q, rfl⟩ | ⟨q, e⟩
  · have e : (T + 1) / U = T / U := by
      rw [Nat.succ_div, if_neg (fun z => q (Nat.mod_eq_zero_of_dvd z)), Nat.add_zero]
    rw [e]
    exact ⟨h, fun k a b => Nat.le_succ_of_le (hHT k a b)⟩
  · have hw : (T + 1) / U * U = T + 1 := Nat.div_mul_cancel (Nat.dvd_of_mod_eq_zero q)
    have hwle : T / U < (T + 1) / U := by
      have h1 := Nat.div_mul_le_self T U
      rcases Nat.lt_or_ge (T / U) ((T + 1) / U) with y | y
      · exact y
      · have := Nat.mul_le_mul_right U y
        omega
    have key : ∀ k, k ≤ 3000 → ¬ H' k = 0 → k = (T + 1) / U ∨ (¬ H k = 0 ∧ (k = 0 ∨ (k ≤ T / U ∧ (T + 1) / U < gw k D))) := fun k a b => by
      rw [e k a] at b
      unfold nH at b
      by_cases q1 : k = (T + 1) / U
      · exact Or.inl q1
      · rw [if_neg q1] at b
        by_cases q2 : (1 ≤ k ∧ k < (T + 1) / U) ∧ gw k D ≤ (T + 1) / U
        · rw [if_pos q2] at b; exact absurd rfl b
        · rw [if_neg q2] at b
          refine Or.inr ⟨b, ?_⟩
          rcases h k a b with z | ⟨z1, z2⟩
          · exact Or.inl z
          · rcases Nat.eq_zero_or_pos k with z | z
            · exact Or.inl z
            · exact Or.inr ⟨z1, by omega⟩
    refine ⟨fun k a b => ?_, fun k a b => ?_⟩
    · rcases key k a b with z | ⟨-, z | ⟨z1, z2⟩⟩
      · refine Or.inr ⟨by omega, ?_⟩
        rw [z]
        unfold gw
        have : 0 < D * 2 ^ tz ((T + 1) / U) := Nat.mul_pos hD (Nat.two_pow_pos _)
        omega
      · exact Or.inl z
      · exact Or.inr ⟨by omega, z2⟩
    · rcases key k a b with z | ⟨z, -⟩
      · rw [z]; omega
      · exact Nat.le_succ_of_le (hHT k a z)
theorem HT_of {H : Nat → Int32} {U T : Nat} (h : okH H U T) : HT H U T := fun k a b => by
  rcases h.2 k a with z | ⟨-, z⟩
  · exact absurd z b
  · exact z
theorem RR_step (hm : okM um K W) (h1 : um.2.1 5 4 = 1) (hs : stM um W = 0) (hT : Tr um 4 < 3000) (hR : RR pB uc um o 4) (hO : OutR uc um W) (ho : 116 ≤ o) (hgo : goT F um = some v) (htk : tkD um v W W' n') (hgd : goD um um' v n' (mstep (Pm um 4) (um.2.1 28) ((Lm v 4).2.2.1 (nr um 4)) (nI (nr um 4)))) (hF : 10000 < F) : ∃ uc', g_X7_step F o uc = some uc' ∧ RR pB uc' um' o 4 ∧ OutR uc' um' W' ∧ FX uc uc' o ∧ CHG uc' o (um.2.1 28) (um'.2.1 28) := by
  have hc := hm.1
  have hro := hc.2.2.2.2.1 4 (Or.inr ⟨rfl, h1⟩)
  have hlive := hc.2.2.2.2.2.1 h1
  obtain ⟨q1, q2, q3, q4, q5, ⟨hU, hU2, hD, hD2⟩, hw, hH, hCk⟩ := id hro
  have hG := hw.1
  have hn8 := hG.2.2.1
  have hT3 := hG.2.2.2.1
  obtain ⟨p1, p2, p3⟩ := stM_0 hs
  obtain ⟨⟨cn, hcn, ecn⟩, d, d8, ed, -, -⟩ := (rp_ok hG (Tr um 4) (Nat.le_refl _)).1
  have eT : (rpm um 4 (Tr um 4)).1 = um.2.1 28 := hlive.symm
  have ecn' : (rpm um 4 (Tr um 4)).1 120 = nI cn := ecn
  have ed' : (rpm um 4 (Tr um 4)).1 121 = nI d := ed
  have ekn : kn um = kindOf (Pm um 4) (nI cn) := by
    unfold kn
    rw [← eT, ecn']
  obtain ⟨r1, r2, r3, r4, r5, ⟨r6, r7, r8, r9⟩, N, hS⟩ := hR
  obtain ⟨A0, o1, o2, o3⟩ := hO
  obtain ⟨v2, W2, n2, t1, -, -, -, -, -, -, hag, -⟩ := m_take hc h1 hs hF
  have ev : v2 = v := Option.some.inj (t1.symm.trans hgo)
  subst ev
  have eN : cP (uc.2.1 (o + 12 + 1)) (Tr um 4) N = N := PI_all hS.2.2.2.1
  have el : (rpm um 4 (Tr um 4)).2 = nr um 4 := hw.2.2.1
  have hN : N ≤ Tr um 4 + nr um 4 := by
    have := (hS.2.2.2.2 (Tr um 4) (Nat.le_refl _)).2
    rw [show o + 13 = o + 12 + 1 from rfl, eN] at this
    dsimp only at this
    omega
  have htk0 := htk
  obtain ⟨u0, u', vv, k, z, hu0, e1, e2, e3, e4⟩ := c_perform (F := F) (P := Pm um 4) (cn := cn) (d := d) (C := Cr um 4) (L := nr um 4) (A0 := A0) (W := W) (num := (Lm v2 4).2.2.1 (nr um 4)) (en := nI (nr um 4)) hS hT (by omega) ho r1 hG.1 ecn' hcn (r7.trans rfl) ed' d8 r3.1 hCk.1 r2.1 (fun y => by have := p3 (by rw [ekn]; exact y); omega) o1 (fun y => p2 (by rw [ekn]; exact y)) (fun y => by
    rcases htk0 with ⟨-, b2, -, -, -, b6, -⟩ | ⟨b, -⟩ | ⟨b, -⟩
    · rw [b6.2.2.1, o2 0 b2]
    · rw [ekn, y] at b; exact absurd b (by decide)
    · rw [ekn] at b; exact absurd y b) (fun y => by
    rcases htk0 with ⟨b, -⟩ | ⟨-, -, -, -, b6, -⟩ | ⟨-, b, -⟩
    · rw [ekn, y] at b; exact absurd b (by decide)
    · rw [b6.2.2.1, o3, ← eT, ecn', tnn (by omega)]
    · rw [ekn] at b; exact absurd y b) hF
  (try dsimp only at e2)
  rw [eT] at e2
  rw [e2] at hgd
  obtain ⟨⟨g1, g2, g3, g4, g5, g6, g7⟩, g8, g9, g10, g11, g12, g13, g14⟩ := hgd
  obtain ⟨N', c1, c2, c3, c4, c5, c6⟩ := e3
  have f0 : ∀ i, i ≠ 100 * o + 11 → u0.1 i = uc.1 i := fun i hi => by rw [hu0]; exact prepS_f hi
  have a0 : ∀ j, (j < o + 30 ∨ o + 33 < j) → u0.2.1 j = uc.2.1 j := fun j hj => by rw [hu0]; exact prepS_n hj
  -- what lies ahead of the order's own changes
  have hu' : u'.2.2 = uc.2.2 ∧ (∀ j, (j < o + 7 ∨ (o + 11 < j ∧ j < o + 25) ∨ (o + 27 < j ∧ j < o + 30) ∨ o + 33 < j) → u'.2.1 j = uc.2.1 j) ∧ (∀ i, (i < 601 ∨ 603 < i) → i ≠ 100 * o + 11 → i ≠ 100 * (o + 6) + 5 → i ≠ 100 * (o + 24) + 3 → u'.1 i = uc.1 i) ∧ LG u' o n' (Lm v2 4) ∧ (∃ A, okO9 u' A W' ∧ (∀ i, i < W' → wt9 u' A i = v2.2.1 29 i) ∧ rF u' 6 3 = v2.1 34) ∧ ((isCall um (upd z.1 133 (z.1 133 + 1), z.2) ∧ u' = caddS u0 (o + 24) (Cr um 4) (nI (Tr um 4)) (z.1 120) (nI d)) ∨ (¬ isCall um (upd z.1 133 (z.1 133 + 1), z.2) ∧ rF u' (o + 24) 3 = rF uc (o + 24) 3 ∧ ∀ j, o + 25 ≤ j → j ≤ o + 27 → u'.2.1 j = uc.2.1 j)) := by
    rcases e4 with ⟨k1, k2⟩ | ⟨k1, k2, k3, k4, k5⟩
    · subst k2
      refine ⟨by rw [hu0]; rfl, fun j hj => a0 j (by omega), fun i _ i2 _ _ => f0 i i2, ?_, ?_, Or.inr ⟨fun y => ?_, f0 _ (by omega), fun j j1 j2 => a0 j (by omega)⟩⟩
      · rcases htk with ⟨b, -⟩ | ⟨b, -⟩ | ⟨-, -, b1, b2, b3⟩
        · rw [ekn, k1] at b; exact absurd b (by decide)
        · rw [ekn, k1] at b; exact absurd b (by decide)
        · rw [b1, b3]
          exact LG_f r2 (f0 _ (by omega)) (fun j j1 j2 => a0 j (by omega))
      · rcases htk with ⟨b, -⟩ | ⟨b, -⟩ | ⟨-, -, b1, b2, b3⟩
        · rw [ekn, k1] at b; exact absurd b (by decide)
        · rw [ekn, k1] at b; exact absurd b (by decide)
        · rw [b1, b2]
          refine ⟨A0, ⟨(f0 _ (by omega)).trans o1.1, (f0 _ (by omega)).trans o1.2.1, o1.2.2⟩, fun i hi => ?_, (f0 _ (by omega)).trans o3⟩
          unfold wt9
          rw [a0 7 (by omega)]
          exact o2 i hi
      · have := y.1
        rw [ekn, k1] at this
        exact absurd this (by decide)
    · obtain ⟨b1, b2⟩ := LG_step (P := Pm um 4) (cn := cn) o1 o2 o3 r2 rfl htk hag (ekn.trans k1) k2 f0 (fun j hj => a0 j (by omega)) ho (by rw [← eT]; exact ecn') hcn rfl k4
      refine ⟨(EX_g k4).trans (by rw [hu0]; rfl), fun j hj => (EX_a k4 (by omega)).trans (a0 j (by omega)), fun i i1 i2 i3 i4 => (EX_f k4 i1 i3 i4).trans (f0 i i2), b1, b2, ?_⟩
      by_cases y : isCall um (upd z.1 133 (z.1 133 + 1), z.2)
      · obtain ⟨y1, y2, y3⟩ := id y
        have k17 : k = 17 := nI_inj (b := 17) (by omega) (by omega) ((ekn.trans k1).symm.trans y1)
        refine Or.inl ⟨y, ?_⟩
        rcases k4 with ⟨-, -, -, w⟩ | ⟨w, -⟩ | ⟨w, -⟩ | ⟨w, -⟩
        · rw [w, k5 k17 y2]
        · omega
        · omega
        · exact absurd ⟨k17, y2, y3⟩ w
      · refine Or.inr ⟨y, ?_⟩
        rcases k4 with ⟨w1, w2, w3, -⟩ | ⟨-, w⟩ | ⟨-, w⟩ | ⟨-, -, -, w⟩
        · refine absurd ⟨?_, w2, w3⟩ y
          rw [ekn, k1, w1]
          rfl
        · rw [w]
          refine ⟨?_, fun j j1 j2 => ?_⟩
          · show (laddS (sF (sF u0 6 1 _) 6 2 _) (o + 6) (nr um 4) _ _ _ _ _).1 (100 * (o + 24) + 3) = _
            rw [laddS_f (by omega), sF_n (by omega), sF_n (by omega)]
            exact f0 _ (by omega)
          · rw [laddS_n (by omega)]
            exact a0 j (by omega)
        · rw [w]
          refine ⟨?_, fun j j1 j2 => ?_⟩
          · show (laddS (sF u0 6 3 _) (o + 6) (nr um 4) _ _ _ _ _).1 (100 * (o + 24) + 3) = _
            rw [laddS_f (by omega), sF_n (by omega)]
            exact f0 _ (by omega)
          · rw [laddS_n (by omega)]
            exact a0 j (by omega)
        · rw [w]
          exact ⟨f0 _ (by omega), fun j j1 j2 => a0 j (by omega)⟩
  obtain ⟨s1, s2, s3, s4, ⟨A', s5, s6, s7⟩, s8⟩ := hu'
  -- behind the order: end and time
  obtain ⟨v1, hv1, w1, w2, w3, w4⟩ : ∃ v1, (if z.2.1 = 0 then g_X7_step_j121 F o (nI (Tr um 4 + 1)) vv else lt1 (sF vv o 10 (10 + z.2.1)) (fun u53 => g_X7_step_j121 F o (nI (Tr um 4 + 1)) u53)) = g_X7_step_j121 F o (nI (Tr um 4 + 1)) v1 ∧ v1.2 = vv.2 ∧ (∀ i, i ≠ 100 * o + 10 → v1.1 i = vv.1 i) ∧ rF v1 o 10 = z.1 132 ∧ MD v1 o (Tr um 4) N' (fun t => (rpm um 4 t).1) (fun t => (rpm um 4 t).2) z.1 := by
    by_cases y : z.2.1 = 0
    · exact ⟨vv, by rw [if_pos y], rfl, fun _ _ => rfl, c3 y, c1⟩
    · exact ⟨sF vv o 10 (10 + z.2.1), by rw [if_neg y, lt1_i], rfl, fun i hi => sF_n hi, by rw [sF_y, c4 y], MD_c c1 (sF_n (by omega)) (sF_n (by omega)) (fun _ _ _ _ => rfl) (fun _ _ _ => rfl)⟩
  have hn' : nr um 4 ≤ n' := by
    rcases htk with ⟨-, -, -, -, b, -⟩ | ⟨-, -, -, b, -⟩ | ⟨-, -, -, -, b⟩ <;> omega
  have hN' : N' ≤ N + 1 := by
    rcases c6.2 with ⟨b, -⟩ | ⟨b, -⟩ <;> omega
  have hS2 : RunS (sF v1 o 9 (nI (Tr um 4 + 1))) o (Tr um 4 + 1) N' (Rx (fun t => (rpm um 4 t).1) (Tr um 4) (upd z.1 133 (z.1 133 + 1))) (fun t => (rpm um' 4 t).2) := RunS_end (MD_133 w4 _) (fun t ht => by rw [g13 t ht]) (by rw [g14]; dsimp only; omega)
  generalize hv2 : sF v1 o 9 (nI (Tr um 4 + 1)) = V at *
  have f2 : ∀ i, i ≠ 100 * o + 9 → V.1 i = v1.1 i := fun i hi => by rw [← hv2]; exact sF_n hi
  have V2 : V.2 = vv.2 := by rw [← hv2]; exact w1
  have FF : ∀ i, (i < 601 ∨ 603 < i) → i ≠ 100 * o + 9 → i ≠ 100 * o + 10 → i ≠ 100 * o + 11 → i ≠ 100 * (o + 6) + 5 → i ≠ 100 * (o + 12) + 11 → i ≠ 100 * (o + 24) + 3 → V.1 i = uc.1 i := fun i i1 i2 i3 i4 i5 i6 i7 => (f2 i i2).trans ((w2 i i3).trans ((c2.2.2 i (by omega)).trans (s3 i i1 i4 i5 i7)))
  have FU : ∀ i, (i < 100 * o + 9 ∨ (100 * o + 11 < i ∧ i ≠ 100 * (o + 12) + 11)) → V.1 i = u'.1 i := fun i hi => (f2 i (by omega)).trans ((w2 i (by omega)).trans (c2.2.2 i (by omega)))
  have AU : ∀ j, (j < o + 12 ∨ (o + 23 < j ∧ j < o + 30) ∨ o + 33 < j) → V.2.1 j = u'.2.1 j := fun j hj => by rw [V2]; exact c2.2.1 j hj
  have hHI : HI V (o + 28) (Hm um 4) (Ur um 4) (Dr um 4) := HI_c r4 (FF _ (by omega) (by omega) (by omega) (by omega) (by omega) (by omega) (by omega)) (FF _ (by omega) (by omega) (by omega) (by omega) (by omega) (by omega) (by omega)) (FF _ (by omega) (by omega) (by omega) (by omega) (by omega) (by omega) (by omega)) ((AU _ (by omega)).trans (s2 _ (by omega)))
  have hHT := HT_of hH
  have ePm : Pm um' 4 = Pm um 4 := by
    unfold Pm
    rw [g9 6 (by omega), g9 7 (by omega), g9 8 (by omega), g9 9 (by omega)]
  have eU : Ur um' 4 = Ur um 4 := by
    unfold Ur
    rw [g9 23 (by omega)]
  have eD : Dr um' 4 = Dr um 4 := by
    unfold Dr
    rw [g9 24 (by omega)]
  have hg12 : (¬ (Tr um 4 + 1) % Ur um 4 = 0 ∧ Hm um' 4 = Hm um 4) ∨ ((Tr um 4 + 1) % Ur um 4 = 0 ∧ ∀ k, k ≤ 3000 → Hm um' 4 k = nH (Hm um 4) (Dr um 4) ((Tr um 4 + 1) / Ur um 4) k) := by
    rcases g12 with ⟨b1, b2, -⟩ | ⟨b1, b2, -⟩
    · exact Or.inl ⟨b1, b2⟩
    · exact Or.inr ⟨b1, b2⟩
  obtain ⟨hHB, -⟩ := HB_step hU hD hT hHT r5.1 hg12
  -- the time comes
  obtain ⟨V3, x1, x2, x3, x4, x5, x6⟩ : ∃ V3, g_X2_timeComes F (o + 28) (nI (Tr um 4 + 1)) V = some V3 ∧ V3.2.2 = V.2.2 ∧ (∀ j, j ≠ o + 28 + 1 → V3.2.1 j = V.2.1 j) ∧ (∀ i, i ≠ 100 * (o + 28) + 1 → i ≠ 100 * (o + 28) + 2 → V3.1 i = V.1 i) ∧ HI V3 (o + 28) (Hm um' 4) (Ur um 4) (Dr um 4) ∧ rF V3 (o + 28) 2 = um'.2.1 26 4 := by
    have e26 : rF V (o + 28) 2 = um.2.1 26 4 := (FF _ (by omega) (by omega) (by omega) (by omega) (by omega) (by omega) (by omega)).trans r6
    rcases g12 with ⟨b1, b2, b3⟩ | ⟨b1, b2, b3⟩
    · exact ⟨V, c_comesNo hHI hU hU2 (by omega) b1, rfl, fun _ _ => rfl, fun _ _ _ => rfl, by rw [b2]; exact hHI, by rw [b3]; exact e26⟩
    · have hw' : (Tr um 4 + 1) / Ur um 4 * Ur um 4 = Tr um 4 + 1 := Nat.div_mul_cancel (Nat.dvd_of_mod_eq_zero b1)
      have h3000 : (Tr um 4 + 1) / Ur um 4 ≤ 3000 := Nat.le_trans (Nat.div_le_self _ _) (by omega)
      have hcn : cH (nH (Hm um 4) (Dr um 4) ((Tr um 4 + 1) / Ur um 4)) 3001 ≤ 49 := cH_49 hD2 h3000 (fun k a b => hHB k a (by rw [b2 k a]; exact b))
      have ecH : cH (Hm um' 4) 3001 = cH (nH (Hm um 4) (Dr um 4) ((Tr um 4 + 1) / Ur um 4)) 3001 := by
        have : ∀ M, M ≤ 3001 → cH (Hm um' 4) M = cH (nH (Hm um 4) (Dr um 4) ((Tr um 4 + 1) / Ur um 4)) M := by
          intro M
          induction M with
          | zero => intro _; rfl
          | succ M ih =>
            intro hM
            unfold cH
            rw [ih (by omega), b2 M (by omega)]
        exact this 3001 (Nat.le_refl _)
      obtain ⟨V3, y1, y2, y3, y4, y5, y6⟩ := c_comesYes (F := F) (t := Tr um 4 + 1) (w := (Tr um 4 + 1) / Ur um 4) hHI hHT (by omega) hU hU2 hD hD2 hw'.symm (by omega) (by omega) hF
      refine ⟨V3, y1, y2, y3, y4, HI_H y5 b2, ?_⟩
      rw [y6, b3, e26, ecH]
  -- what the puts rest on
  have hPI3 : PI V3 (o + 12) (Tr um 4 + 1) N' := PI_c hS2.2.2.2.1 (x4 _ (by omega) (by omega)) (fun j j1 j2 => x3 j (by omega)) (x3 _ (by omega))
  have hm28 : um.2.1 28 120 = nI cn := by rw [← eT]; exact ecn'
  have e22 : (mstep (Pm um 4) (um.2.1 28) ((Lm v2 4).2.2.1 (nr um 4)) (nI (nr um 4))).2.2.2 = z.2.2.2 := by rw [e2]
  have hXC := r5.2
  unfold RX at hXC
  rw [hS.2.2.2.1.1, tnn (show N < 2 ^ 31 by omega)] at hXC
  obtain ⟨kk, hPX, hk1, hk2, hQ⟩ : ∃ kk : Int32 × Int32 × Int32, PX uc V3 o (Tr um 4) N N' kk.1 kk.2.1 kk.2.2 z.2.2.2 ∧ isPt N kk.2.1 ∧ isPt N kk.2.2 ∧ (¬ z.2.2.2 = -1 → ∀ x, x < 3808 → (lkS (Pm um 4) (um.2.1 28) (nr um 4) (rS (Pm um 4) (Lm um 4) (rpm um 4) (Tr um 4)) x ↔ (x = Tr um 4 ∨ (∃ j, j < 800 ∧ kk.1 = nI j ∧ x = 3008 + j) ∨ (inS (uc.2.1 (o + 19)) (uc.2.1 (o + 20)) (uc.2.1 (o + 21)) (uc.2.1 (o + 22)) N kk.2.1 x ∨ inS (uc.2.1 (o + 19)) (uc.2.1 (o + 20)) (uc.2.1 (o + 21)) (uc.2.1 (o + 22)) N kk.2.2 x)))) := by
    have hPX := PX_c (u1 := uc) (v1 := V3) c6 (fun j j1 j2 => (s2 j (by omega)).symm) (fun j j1 j2 => by rw [x3 j (by omega), V2])
    (try dsimp only at hPX)
    rcases e4 with ⟨k1, k2⟩ | ⟨k1, k2, k3, k4, k5⟩
    · rw [if_pos k1] at hPX
      refine ⟨(-1, -1, -1), hPX, Or.inl rfl, Or.inl rfl, fun y => absurd ?_ y⟩
      rw [← e22]
      exact mstep_none (by rw [hm28]; exact k1)
    · rw [if_neg (show ¬ kindOf (Pm um 4) (nI cn) = -1 by rw [k1]; exact nI_m1 (by omega)), eT, a0 (o + 14) (by omega)] at hPX
      have hv := hG.1 cn k3
      rw [show (Pm um 4).1 cn = nI k from (kind_in hcn (by rw [k1]; exact nI_m1 (by omega))).2.symm.trans k1] at hv
      have hpt := lkV_pt (L := nr um 4) (N := N) (a := (Pm um 4).2.1 cn) (b := (Pm um 4).2.2.1 cn) (c := (Pm um 4).2.2.2 cn) (m := upd (um.2.1 28) 120 (imin 64 (um.2.1 28 120 + 1))) (pp := uc.2.1 (o + 14)) k2
      refine ⟨_, hPX, hpt.1, hpt.2, fun y x hx => lkS_I (num := (Lm v2 4).2.2.1 (nr um 4)) (en := nI (nr um 4)) k2 (by rw [hm28]; exact k1) hm28 k3 hv (by rw [← eT]; exact (rp_ok hG (Tr um 4) (Nat.le_refl _)).2.1) hT (fun w => ?_) e22 (by omega) (fun p x hp hx => ?_) y x hx⟩
      · have h19 : kn um = 19 ∨ kn um = 20 := by
          rw [ekn, k1]
          rcases w with w | w
          · rw [w]; exact Or.inl rfl
          · rw [w]; exact Or.inr rfl
        have := p3 h19
        omega
      · have w := hXC.2.2 (Tr um 4) p x (Nat.le_refl _) hp hx
        rw [show cP (uc.2.1 (o + 13)) (Tr um 4) N = N from eN] at w
        exact w
  have hlo : (rpm um' 4 (Tr um 4 + 1)).2 ≤ loS (Pm um 4) (Lm v2 4) (rpm um 4 (Tr um 4)).1 (rpm um 4 (Tr um 4)).2 := by
    rw [g14, eT, el]
    show n' ≤ loS (Pm um 4) (Lm v2 4) (um.2.1 28) (nr um 4)
    unfold loS
    by_cases y : kindOf (Pm um 4) (um.2.1 28 120) = 19 ∨ kindOf (Pm um 4) (um.2.1 28 120) = 20
    · rw [step_take y, if_neg (nI_m1 (show nr um 4 < 2 ^ 31 by omega))]
      rcases htk with ⟨-, -, -, -, b, -⟩ | ⟨-, -, -, b, -⟩ | ⟨-, -, -, -, b⟩ <;> omega
    · have en : n' = nr um 4 := by
        rcases htk with ⟨b, -⟩ | ⟨b, -⟩ | ⟨-, -, -, -, b⟩
        · exact (y (Or.inl b)).elim
        · exact (y (Or.inr b)).elim
        · exact b
      rw [en]
      split <;> omega
  have hX : RX V3 um' o 4 := by
    refine RX_step (Q := lkS (Pm um 4) (um.2.1 28) (nr um 4) (rS (Pm um 4) (Lm um 4) (rpm um 4) (Tr um 4))) r5.2 hS.2.2.2.1 (by omega) hPI3 rfl g3 hPX (fun t ht => ?_) ?_ hk1 hk2 hQ
    · rw [ePm, g4]
      exact rS_ext hG hag (Nat.le_refl _) (fun s hs => g13 s hs) t ht
    · rw [ePm, g4]
      have hgo2 : rS (Pm um 4) (Lm v2 4) (rpm um' 4) (Tr um 4 + 1) = stS (Pm um 4) (Lm v2 4) (rpm um 4 (Tr um 4)).1 (rpm um 4 (Tr um 4)).2 (rS (Pm um 4) (Lm um 4) (rpm um 4) (Tr um 4)) := rS_go hG hag (fun s hs => g13 s hs) hlo
      rw [hgo2, eT, el]
      unfold stS
      rw [e22]
  refine ⟨V3, ?_, ⟨fun k hk => ?_, ?_, ?_, ?_, ⟨?_, hX⟩, ⟨x6, ?_, ?_, ?_⟩, N', ?_⟩, ?_, ⟨?_, fun j hj => ?_, fun i hi => ?_⟩, ?_⟩
  · rw [c_prep hS hT ecn' hcn]
    (try dsimp only)
    rw [← hu0, e1, ob_i]
    (try dsimp only)
    rw [hv1]
    unfold g_X7_step_j121
    rw [lt1_i, sF_y, hv2, x1, ob_i]
  · rw [ePm, x3 (o + 2) (by omega), x3 (o + 3) (by omega), x3 (o + 4) (by omega), x3 (o + 5) (by omega), AU (o + 2) (by omega), AU (o + 3) (by omega), AU (o + 4) (by omega), AU (o + 5) (by omega), s2 (o + 2) (by omega), s2 (o + 3) (by omega), s2 (o + 4) (by omega), s2 (o + 5) (by omega)]
    exact r1 k hk
  · rw [g2, g4]
    exact LG_f s4 ((x4 _ (by omega) (by omega)).trans (FU _ (by omega))) (fun j j1 j2 => (x3 j (by omega)).trans (AU j (by omega)))
  · have hC3 : rF V3 (o + 24) 3 = rF u' (o + 24) 3 := (x4 _ (by omega) (by omega)).trans (FU _ (by omega))
    have hA3 : ∀ j, o + 25 ≤ j → j ≤ o + 27 → V3.2.1 j = u'.2.1 j := fun j j1 j2 => (x3 j (by omega)).trans (AU j (by omega))
    unfold CG
    rw [hC3, hA3 (o + 25) (by omega) (by omega), hA3 (o + 26) (by omega) (by omega), hA3 (o + 27) (by omega) (by omega)]
    rcases g11 with ⟨b1, b2, b3, b4, b5, b6⟩ | ⟨b1, b2, b3⟩
    · rcases s8 with ⟨-, y⟩ | ⟨y, -⟩
      · obtain ⟨k1, k2, k3⟩ := caddS_25 (u := u0) (q := o + 24) (C := Cr um 4) (t := nI (Tr um 4)) (p := z.1 120) (d := nI d)
        rw [y, b2]
        refine ⟨sF_y, fun i hi => ?_⟩
        rw [show o + 25 = o + 24 + 1 from rfl, show o + 26 = o + 24 + 2 from rfl, show o + 27 = o + 24 + 3 from rfl, k1, k2, k3]
        by_cases q : i = Cr um 4
        · subst q
          rw [pk_us, pk_us, pk_us, show 100 * 4 + Cr um 4 = 400 + Cr um 4 from rfl, b4, b5, b6]
          dsimp only
          rw [pk_un (by decide), ← eT, ed']
          exact ⟨rfl, rfl, rfl⟩
        · rw [pk_un q, pk_un q, pk_un q, show 100 * 4 + i = 400 + i from rfl, b3 16 i (by omega) (by omega) (by omega), b3 17 i (by omega) (by omega) (by omega), b3 18 i (by omega) (by omega) (by omega), a0 _ (by omega), a0 _ (by omega), a0 _ (by omega)]
          exact r3.2 i (by omega)
      · exact absurd b1 y
    · rcases s8 with ⟨y, -⟩ | ⟨-, y1, y2⟩
      · exact absurd y b1
      · rw [y1, b2, y2 (o + 25) (by omega) (by omega), y2 (o + 26) (by omega) (by omega), y2 (o + 27) (by omega) (by omega), b3 16 (by omega) (by omega), b3 17 (by omega) (by omega), b3 18 (by omega) (by omega)]
        exact r3
  · rw [eU, eD]
    exact x5
  · unfold HB
    rw [g3, eU, eD]
    exact hHB
  · rw [g3, g14]
    dsimp only
    rw [pk_un (by decide), ← w3]
    exact (x4 _ (by omega) (by omega)).trans (f2 _ (by omega))
  · intro hb
    rw [g9 25 (by omega), ← r8 hb]
    exact (x4 _ (by omega) (by omega)).trans (FF _ (by omega) (by omega) (by omega) (by omega) (by omega) (by omega) (by omega))
  · rw [g9 27 (by omega), ← r9]
    exact (x4 _ (by omega) (by omega)).trans (FF _ (by omega) (by omega) (by omega) (by omega) (by omega) (by omega) (by omega))
  · rw [g3]
    have hS3 : RunS V3 o (Tr um 4 + 1) N' (Rx (fun t => (rpm um 4 t).1) (Tr um 4) (upd z.1 133 (z.1 133 + 1))) (fun t => (rpm um' 4 t).2) := by
      obtain ⟨b1, b2, b3, b4, b5⟩ := hS2
      refine ⟨(x4 _ (by omega) (by omega)).trans b1, b2, fun t ht => SI_c (b3 t ht) (fun s _ => by rw [x3 (o + 30) (by omega)]) (by rw [x3 (o + 31) (by omega)]) (by rw [x3 (o + 32) (by omega)]) (by rw [x3 (o + 33) (by omega)]) (fun _ _ => rfl), PI_c b4 (x4 _ (by omega) (by omega)) (fun j j1 j2 => x3 j (by omega)) (x3 _ (by omega)), fun t ht => ?_⟩
      rw [x3 (o + 13) (by omega)]
      exact ⟨PRow_c (b5 t ht).1 (fun j j1 j2 => x3 j (by omega)), (b5 t ht).2⟩
    refine RunS_c hS3 (fun t ht => ?_) (fun _ _ => rfl)
    rcases Nat.lt_or_ge (Tr um 4) t with y | y
    · rw [Rx_gt y, show t = Tr um 4 + 1 by omega, g14]
    · rw [Rx_le y, g13 t y]
  · refine ⟨A', ⟨?_, ?_, s5.2.2⟩, fun i hi => ?_, ?_⟩
    · exact (x4 _ (by omega) (by omega)).trans ((FU _ (by omega)).trans s5.1)
    · exact (x4 _ (by omega) (by omega)).trans ((FU _ (by omega)).trans s5.2.1)
    · unfold wt9
      rw [x3 7 (by omega), AU 7 (by omega), g5]
      exact s6 i hi
    · rw [g7, ← s7]
      exact (x4 _ (by omega) (by omega)).trans (FU _ (by omega))
  · rw [x2, V2, c2.1, s1]
  · rw [x3 j (by omega), AU j (by omega), s2 j (by omega)]
  · rw [x4 i (by omega) (by omega)]
    rcases Nat.lt_or_ge i 601 with y | y
    · exact FF i (by omega) (by omega) (by omega) (by omega) (by omega) (by omega) (by omega)
    · exact FF i (by omega) (by omega) (by omega) (by omega) (by omega) (by omega) (by omega)
  · have e11 : rF V3 o 11 = rF vv o 11 := (x4 _ (by omega) (by omega)).trans ((f2 _ (by omega)).trans (w2 _ (by omega)))
    rw [g1]
    dsimp only
    unfold CHG at c5 ⊢
    rw [e11]
    have em : ∀ p, p < 40 → (upd z.1 133 (z.1 133 + 1)) (80 + p) = z.1 (80 + p) := fun p hp => pk_un (by omega)
    have em0 : ∀ p, p < 40 → (upd (rpm um 4 (Tr um 4)).1 120 (imin 64 ((rpm um 4 (Tr um 4)).1 120 + 1))) (80 + p) = um.2.1 28 (80 + p) := fun p hp => by rw [pk_un (by omega), eT]
    rcases c5 with ⟨y1, y2⟩ | ⟨p, y1, y2, y3, y4⟩
    · exact Or.inl ⟨y1, fun p hp => by rw [em p hp, ← em0 p hp]; exact y2 p hp⟩
    · exact Or.inr ⟨p, y1, y2, by rw [em p y1, ← em0 p y1]; exact y3, fun p' h1' h2' => by rw [em p' h1', ← em0 p' h1']; exact y4 p' h1' h2'⟩
end XV
