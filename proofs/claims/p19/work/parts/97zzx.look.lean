/-! the class and the reference: look, and that calls that answer no count leave the counts -/
/-- nothing but the marks is other -/
def mkX (u0 u : rg_U) : Prop := wyX u0 u ∧ u.1 = u0.1 ∧ ∀ j, j ≠ 115 → u.2.1 j = u0.2.1 j
section YO
variable {pB : Prop} {F o o' j s K W : Nat} {x y z v i a b c d e : Int32} {u0 u w uc um uc' : rg_U}
theorem mk_r (h : wkB u) : mkX u u := ⟨wy_r h, rfl, fun _ _ => rfl⟩
theorem mk_Z (h : mkX u0 u) : mkX u0 (sZ u 115 i v) := ⟨wy_Z h.1 (by decide), h.2.1, fun j hj => (R_n hj).trans (h.2.2 j hj)⟩
theorem x_unmark (h : mkX u0 u) (hF : 10000 < F) : Tt (g_X6_unmarkAll F o 115 3800 u) (fun w => mkX u0 w) := by
  have eN : (Int32.ofNat 3800).toInt = 3800 := rfl
  unfold g_X6_unmarkAll
  refine tt_b (tt_lp (I := fun s => mkX u0 s.2 ∧ 0 ≤ s.1.toInt ∧ s.1.toInt ≤ 3800) (m := fun s => (3800 - s.1.toInt).toNat) (P := fun w => mkX u0 w) ?_ F _ ?_ ?_) (fun _ q => q)
  · rintro ⟨c, w⟩ ⟨h0, h1, h2⟩
    dsimp only at h0 h1 h2 ⊢
    unfold g_X6_unmarkAll_l2
    refine tt_if (fun _ => tt_r h0) (fun _ => tt_if (fun _ => tt_r h0) (fun h3 => ?_))
    rw [Int32.le_iff_toInt_le, eN] at h3
    have hi : inb c 3800 := by constructor <;> omega
    have := t_a1 (x := c) (by omega)
    exact tt_ck hi (tt_lt (tt_l ⟨⟨mk_Z h0, by dsimp only; omega⟩, by dsimp only; omega⟩))
  · dsimp only
    rw [t_0]
    omega
  · dsimp only
    rw [t_0]
    exact ⟨h, by omega⟩
theorem x_mark (h : mkX u0 u) : Tt (g_X6_mark F o 115 3800 x u) (fun w => mkX u0 w) := by
  unfold g_X6_mark
  exact tt_ob z_has6 (fun r hr => tt_if (fun _ => tt_s h) (fun q => tt_if (fun _ => tt_s h) (fun _ => tt_ck (hr q) (tt_lt (tt_s (mk_Z h))))))
theorem x_markBelow (h : mkX u0 u) (ho : isRn o) (hF : 10000 < F) : Tt (g_X6_markAllBelow F (o + 12) x 115 3800 u) (fun w => mkX u0 w) := by
  unfold g_X6_markAllBelow
  refine tt_ob (x_unmark h hF) (fun _ h1 => tt_ob (x_mark h1) (fun w2 h2 => tt_b (tt_lp (I := fun s => mkX u0 s.2 ∧ s.1.toInt ≤ 3799) (m := fun s => (s.1.toInt + 1).toNat) (P := fun w => mkX u0 w) ?_ F _ ?_ ?_) (fun _ q => q)))
  · rintro ⟨c, w⟩ ⟨h0, h3⟩
    dsimp only at h0 h3 ⊢
    unfold g_X6_markAllBelow_l22
    refine tt_if (fun _ => tt_r h0) (fun h4 => ?_)
    rw [Int32.lt_iff_toInt_lt, t_0] at h4
    have hi : inb c 3800 := by constructor <;> omega
    have := t_d1 (x := c) (by omega)
    have fin : ∀ w', mkX u0 w' → Tt (g_X6_markAllBelow_j56 F (o + 12) 115 3800 c w') (PS (fun s' : Int32 × rg_U => (mkX u0 s'.2 ∧ s'.1.toInt ≤ 3799) ∧ (s'.1.toInt + 1).toNat < (c.toInt + 1).toNat) (fun w : rg_U => mkX u0 w)) := fun w' hw' => tt_l ⟨⟨hw', by dsimp only; omega⟩, by dsimp only; omega⟩
    exact tt_ob (z_isMarked (by decide)) (fun _ _ => tt_if (fun _ => fin _ h0) (fun _ => tt_ck hi (tt_ob (x_mark h0) (fun _ h5 => tt_ck hi (tt_ob (x_mark h5) (fun _ h6 => fin _ h6))))))
  all_goals
    have hb := b_P (wy_k h2.1) ho
    have hs := t_s1 (x := rF w2 (o + 12) 11) (by omega)
    have hm : (imin x (rF w2 (o + 12) 11 - 1)).toInt ≤ 3799 := by
      unfold imin
      by_cases q : rF w2 (o + 12) 11 - 1 < x
      · rw [if_pos q]; omega
      · rw [if_neg q]
        rw [Int32.lt_iff_toInt_lt] at q
        omega
    dsimp only
  · omega
  · exact ⟨h2, hm⟩
theorem x_markAbove (h : mkX u0 u) (hF : 10000 < F) : Tt (g_X6_markAllAbove F o x 115 3800 u) (fun w => mkX u0 w) := by
  unfold g_X6_markAllAbove
  refine tt_ob (x_unmark h hF) (fun w1 h1 => tt_b (tt_lp (I := fun s => mkX u0 s.2 ∧ 0 ≤ s.1.toInt ∧ s.1.toInt ≤ 3800) (m := fun s => (3800 - s.1.toInt).toNat) (P := fun w => mkX u0 w) ?_ F _ ?_ ?_) (fun _ q => q))
  · rintro ⟨c, w⟩ ⟨h0, h3, h4⟩
    dsimp only at h0 h3 h4 ⊢
    unfold g_X6_markAllAbove_l7
    refine tt_if (fun _ => tt_r h0) (fun _ => tt_if (fun _ => tt_r h0) (fun h5 => ?_))
    rw [Int32.le_iff_toInt_le, t_3800] at h5
    have hi : inb c 3800 := by constructor <;> omega
    have := t_a1 (x := c) (by omega)
    have j64 : ∀ w', mkX u0 w' → Tt (g_X6_markAllAbove_j64 F o 115 3800 x c w') (PS (fun s' : Int32 × rg_U => (mkX u0 s'.2 ∧ 0 ≤ s'.1.toInt ∧ s'.1.toInt ≤ 3800) ∧ (3800 - s'.1.toInt).toNat < (3800 - c.toInt).toNat) (fun w : rg_U => mkX u0 w)) := fun w' hw' => tt_l ⟨⟨hw', by dsimp only; omega⟩, by dsimp only; omega⟩
    have j58 : Tt (g_X6_markAllAbove_j58 F o 115 3800 x c w) (PS (fun s' : Int32 × rg_U => (mkX u0 s'.2 ∧ 0 ≤ s'.1.toInt ∧ s'.1.toInt ≤ 3800) ∧ (3800 - s'.1.toInt).toNat < (3800 - c.toInt).toNat) (fun w : rg_U => mkX u0 w)) := by
      unfold g_X6_markAllAbove_j58
      exact tt_ob (x_mark h0) (fun _ h6 => j64 _ h6)
    exact tt_ck hi (tt_if (fun _ => j58) (fun _ => tt_ck hi (tt_ob (z_isMarked (by decide)) (fun _ _ => tt_if (fun _ => tt_ck hi (tt_ob (z_isMarked (by decide)) (fun _ _ => tt_if (fun _ => j64 _ h0) (fun _ => j58)))) (fun _ => j58)))))
  · dsimp only
    rw [t_0]
    omega
  · dsimp only
    rw [t_0]
    exact ⟨h1, by omega⟩
theorem mk_rests (h : mkX u0 u) (hG : wkG u0) (hF : 10000 < F) : Tt (g_X9_rests F x y z u) (fun z => mkX u0 z.2) := by
  unfold g_X9_rests
  exact tt_num (wx_G hG (wy_k h.1)) (tt_s h) (fun o ho => tt_ob z_hasT (fun r hr => tt_if (fun _ => tt_s h) (fun q => tt_if (fun _ => tt_s h) (fun _ => tt_ob (z_putBy (b_P (wy_k h.1) ho) hF) (fun _ _ => tt_ob (x_markBelow h ho hF) (fun _ h1 => tt_b (z_markedStep (by decide) hF) (fun _ _ => h1)))))))
theorem mk_hangs (h : mkX u0 u) (hG : wkG u0) (hF : 10000 < F) : Tt (g_X9_hangs F x y z u) (fun z => mkX u0 z.2) := by
  unfold g_X9_hangs
  have hp := t_pl (y := z)
  refine tt_num (wx_G hG (wy_k h.1)) (tt_s h) (fun o ho => tt_ob z_has3 (fun r hr => tt_if (fun _ => tt_s h) (fun q => tt_ob z_hasT (fun r hr => tt_if (fun _ => tt_s h) (fun q => tt_if (fun _ => tt_s h) (fun _ => tt_ob (x_markAbove h hF) (fun w1 h1 => tt_b (tt_lp (I := fun s => 0 ≤ s.2.toInt ∧ s.2.toInt ≤ 32) (m := fun s => (32 - s.2.toInt).toNat) (P := fun _ => True) ?_ F _ ?_ ?_) (fun _ _ => h1))))))))
  · rintro ⟨a, c⟩ ⟨h4, h5⟩
    dsimp only at h4 h5 ⊢
    unfold g_X9_hangs_l65 g_X9_hangs_j109
    refine tt_if (fun _ => tt_r trivial) (fun h6 => ?_)
    rw [Int32.le_iff_toInt_le] at h6
    have := t_a1 (x := c) (by omega)
    exact tt_ob (z_putBy (b_P (wy_k h1.1) ho) hF) (fun _ _ => tt_ob (z_isMarked (by decide)) (fun _ _ => tt_if (fun _ => tt_l (by dsimp only; omega)) (fun _ => tt_l (by dsimp only; omega))))
  · dsimp only
    rw [t_0]
    omega
  · dsimp only
    rw [t_0]
    omega
theorem Rel_mk (h : RelC pB uc um) (hl : mkX uc uc') : RelC pB uc' um := by
  obtain ⟨K, W, r1, r2, r3, r4, ⟨s1, s2, s3, s4, s5⟩, r6, r7, r8, r9⟩ := h
  have hK := r1.1.1.2.1
  have cf : ∀ k, uc'.1 k = uc.1 k := fun k => by rw [hl.2.1]
  have ca : ∀ j, j ≠ 115 → uc'.2.1 j = uc.2.1 j := hl.2.2
  refine ⟨K, W, r1, ⟨hl.1.1, wx_G r2.2 (wy_k hl.1)⟩, OutR_c r3 (cf _) (cf _) (cf _) (ca 7 (by omega)) rfl rfl, WR_c r4 (cf _) (cf _) rfl, ⟨(cf _).trans s1, (cf _).trans s2, (cf _).trans s3, (cf _).trans s4, fun hb => (cf _).trans (s5 hb)⟩, ?_, fun z k hz hk => ?_, fun h1 => ?_, fun q hq => ⟨?_, ?_⟩⟩
  · rw [show rG uc' 0 7 = rG uc 0 7 by unfold rG; rw [hl.1.2.1]]
    exact r6
  · rw [ca _ (by omega)]
    exact r7 z k hz hk
  · exact RR_f (r8 h1) (fun j j1 _ => ca j (by omega)) (fun k k1 k2 => cf k)
  · exact RR_f (r9 q hq).1 (fun j j1 _ => ca j (by omega)) (fun k k1 k2 => cf k)
  · exact (cf _).trans (r9 q hq).2
/-- both return, and what holds of both holds behind it; nothing of the answers -/
def SV (pB : Prop) (gc gm : rg_U → Option (Int32 × rg_U)) : Prop := ∀ uc um, RelC pB uc um → ∃ zc zm, gc uc = some zc ∧ gm um = some zm ∧ RelC pB zc.2 zm.2
theorem sv_rests (hF : 10000 < F) : SV pB (g_X9_rests F x y z) (g_X10_rests F x y z) := fun uc um h => by
  obtain ⟨K, W, r1, r2, -⟩ := id h
  obtain ⟨zc, e1, h1⟩ := mk_rests (F := F) (x := x) (y := y) (z := z) (mk_r r2.1) r2.2 hF
  rcases m_rests (F := F) (x := x) (y := y) (z := z) r1 hF with ⟨-, q⟩ | ⟨t, p, u', -, -, -, -, -, -, q, w, ce⟩
  · exact ⟨zc, _, e1, q, Rel_mk h h1⟩
  · exact ⟨zc, _, e1, q, Rel_e (Rel_mk h h1) r1 ce w⟩
theorem sv_hangs (hF : 10000 < F) : SV pB (g_X9_hangs F x y z) (g_X10_hangs F x y z) := fun uc um h => by
  obtain ⟨K, W, r1, r2, -⟩ := id h
  obtain ⟨zc, e1, h1⟩ := mk_hangs (F := F) (x := x) (y := y) (z := z) (mk_r r2.1) r2.2 hF
  rcases m_hangs (F := F) (x := x) (y := y) (z := z) r1 hF with ⟨q, -⟩ | ⟨t, e, u', -, -, -, -, -, -, -, q, w, ce⟩
  · exact ⟨zc, _, e1, q, Rel_mk h h1⟩
  · exact ⟨zc, _, e1, q, Rel_e (Rel_mk h h1) r1 ce w⟩
theorem sv_history (hF : 10000 < F) : SV pB (lf1 (g_X9_history F x y z)) (g_X10_history F x y z) := fun uc um h => by
  obtain ⟨K, W, r1, r2, -⟩ := id h
  obtain ⟨r, e1, -⟩ := wk_history (F := F) (x := x) (y := y) (z := z) (wx_r r2.1) r2.2 hF
  have e1' : lf1 (g_X9_history F x y z) uc = some (r, uc) := by unfold lf1; rw [e1, ob_i]
  rcases m_history (F := F) (x := x) (y := y) (z := z) r1 hF with ⟨-, q⟩ | ⟨p, u', -, -, -, -, -, q, w, ce⟩
  · exact ⟨_, _, e1', q, h⟩
  · exact ⟨_, _, e1', q, Rel_e h r1 ce w⟩
theorem sv_lf {gc gm : rg_U → Option Int32} (hc : ∀ u, wkB u → wkG u → Tt (gc u) (fun _ => True)) (hm : ∀ u K W, okM u K W → ∃ r, gm u = some r) : SV pB (lf1 gc) (lf1 gm) := fun uc um h => by
  obtain ⟨K, W, r1, r2, -⟩ := id h
  obtain ⟨r, e1, -⟩ := hc uc r2.1 r2.2
  obtain ⟨r', e2⟩ := hm um K W r1
  exact ⟨(r, uc), (r', um), by unfold lf1; rw [e1, ob_i], by unfold lf1; rw [e2, ob_i], h⟩
theorem in6_iff : (¬ x < 0 ∧ ¬ 6 < x) ↔ ¬ g_X10_isIn x 0 6 = 0 := by
  rw [in_0, Decidable.not_not, Int32.lt_iff_toInt_lt, Int32.lt_iff_toInt_lt, Int32.le_iff_toInt_le, Int32.le_iff_toInt_le, t_0]
  constructor
  · rintro ⟨a, b⟩; exact ⟨by omega, by omega⟩
  · rintro ⟨a, b⟩; exact ⟨by omega, by omega⟩
theorem sr_look (hF : 10000 < F) : SB True (lf1 (g_X9_look F x)) (lf1 (g_X10_look F x)) := fun uc um h => by
  obtain ⟨K, W, r1, r2, r3, r4, ⟨s1, s2, s3, s4, s5⟩, r6, r7, r8, r9⟩ := id h
  have hK := r1.1.1.2.1
  have key : g_X9_look F x uc = some (loA um W x) := by
    obtain ⟨A0, ⟨q1, q2, q3, q4⟩, q5, q6⟩ := id r3
    unfold g_X9_look loA
    by_cases q : g_X10_isIn x 0 6 = 0
    · have e : g_X9_look_j24 F x uc = some (if x = 7 then um.1 29 else if x = 8 then um.1 33 else if x = 9 then um.1 34 else if x = 10 then um.1 35 else if x = 11 then wtB um 0 8 else if x = 12 then wtB um 8 32 else -1000001) := by
        unfold g_X9_look_j24
        rw [s1, q2, q6, s5 trivial, r4.1, r4.2, r1.1.1.1, r1.1.2.2.2.2.2.2.1.1]
        by_cases x7 : x = 7
        · rw [if_pos x7, if_pos x7]
        rw [if_neg x7, if_neg x7]
        by_cases x8 : x = 8
        · rw [if_pos x8, if_pos x8]
        rw [if_neg x8, if_neg x8]
        by_cases x9 : x = 9
        · rw [if_pos x9, if_pos x9]
        rw [if_neg x9, if_neg x9]
        by_cases x10 : x = 10
        · rw [if_pos x10, if_pos x10]
        rw [if_neg x10, if_neg x10]
        by_cases x11 : x = 11
        · rw [if_pos x11, if_pos x11]
        rw [if_neg x11, if_neg x11]
        by_cases x12 : x = 12
        · rw [if_pos x12, if_pos x12]
        rw [if_neg x12, if_neg x12]
      rw [if_pos q]
      by_cases z1 : x < 0
      · rw [if_pos z1]; exact e
      · rw [if_neg z1]
        by_cases z2 : 6 < x
        · rw [if_pos z2]; exact e
        · exact absurd q (in6_iff.mp ⟨z1, z2⟩)
    · obtain ⟨z1, z2⟩ := in6_iff.mpr q
      rw [if_neg z1, if_neg z2, if_neg q]
      rcases Rel_ask (F := F) h r1 with ⟨e5, en⟩ | ⟨ea, e5, h5, en, hR⟩
      · rw [en, ob_i, om_0, if_pos e5]
        rfl
      · have hro := r1.1.2.2.2.2.1 _ ea
        obtain ⟨N, hS⟩ := hR.2.2.2.2.2.2
        obtain ⟨b1, b2, b3, b4⟩ := hR.2.2.2.2.2.1
        obtain ⟨c1, c2, -⟩ := hR.2.2.2.1
        have h9 : rF uc (oR (aR um)) 9 = um.2.1 21 (aR um) := hS.1.trans hro.2.1.symm
        have hU : rF uc (oR (aR um) + 28) 3 = um.2.1 23 (aR um) := c1.trans hro.2.2.1.symm
        have hD : rF uc (oR (aR um) + 28) 4 = um.2.1 24 (aR um) := c2.trans hro.2.2.2.1.symm
        have hst : ob (g_X9_isKept F (rF uc 0 8) uc) (fun r3 => if r3 = 0 then (ob (g_X7_statusWith F (oR (aR um)) uc) (fun r6 => some r6)) else (some (rF uc (oR (aR um)) 14))) = some (if aR um = 4 then stM um W else um.2.1 22 (aR um)) := by
          rcases r1.1.1.2.2 with k | ⟨r, hr, k⟩
          · have eA : aR um = 4 := by unfold aR; rw [if_pos k]
            have hk : g_X9_isKept F (rF uc 0 8) uc = some 0 := by
              unfold g_X9_isKept
              rw [s2, k, if_pos (by decide)]
            rw [eA] at hR e5 ⊢
            rw [hk, ob_i, if_pos rfl, c_status r1 e5 hR r3, ob_i, if_pos rfl]
          · have eA : aR um = r := by unfold aR; rw [if_neg (by rw [k]; exact nI_m1 (by omega)), k, tnn (by omega)]
            have hk : g_X9_isKept F (rF uc 0 8) uc = some 1 := by
              unfold g_X9_isKept
              rw [s2, k, if_neg (nI_pos (by omega)), s1, if_neg (nI_ge hr (by omega)), if_neg (show ¬ (4 : Int32) ≤ nI r from nI_ge (a := r) (b := 4) (by omega) (by decide))]
            rw [hk, ob_i, if_neg one_n0, eA, if_neg (by omega), oR_r (by omega), (r9 r hr).2]
        rw [en, ob_i, om_i, ck_t (oR_rn h5), if_neg (by rw [e5]; exact one_n0)]
        unfold g_X9_lookAtRun ofA
        rw [hst, h9, hU, hD, b1, b3 trivial, b4]
        by_cases x0 : x = 0
        · rw [if_pos x0, if_pos x0, ob_i]
        rw [if_neg x0, if_neg x0]
        by_cases x1 : x = 1
        · rw [if_pos x1, if_pos x1, ob_i]
        rw [if_neg x1, if_neg x1]
        by_cases x2 : x = 2
        · rw [if_pos x2, if_pos x2, ob_i]
        rw [if_neg x2, if_neg x2]
        by_cases x3 : x = 3
        · rw [if_pos x3, if_pos x3, ob_i]
        rw [if_neg x3, if_neg x3]
        by_cases x4 : x = 4
        · rw [if_pos x4, if_pos x4, ob_i]
        rw [if_neg x4, if_neg x4]
        by_cases x5 : x = 5
        · rw [if_pos x5, if_pos x5, ob_i]
        rw [if_neg x5, if_neg x5, ob_i]
  exact ⟨(loA um W x, uc), (loA um W x, um), by unfold lf1; rw [key, ob_i], by unfold lf1; rw [m_look r1.1 hF, ob_i], rfl, h⟩
end YO
