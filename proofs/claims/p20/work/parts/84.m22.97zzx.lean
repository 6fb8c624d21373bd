section W_91
-- 97zzx.look
/-! the class and the reference: look, and that calls that answer no count leave the counts -/
/-- nothing but the marks is other -/
def mkX (u0 u : rg_U) : Prop := wyX u0 u ∧ u.1 = u0.1 ∧ ∀ j, j ≠ 115 → u.2.1 j = u0.2.1 j
section YO
variable {pB : Prop} {F o o' j s K W : Nat} {x y z v i a b c d e : Int32} {u0 u w uc um uc' : rg_U}
theorem mk_r (h : wkB u) : mkX u u := ⟨wy_r h, rfl, fun _ _ => rfl⟩
theorem mk_Z (h : mkX u0 u) : mkX u0 (sZ u 115 i v) := ⟨wy_Z h.1 (by decide), h.2.1, fun j hj => (R_n hj).trans (h.2.2 j hj)⟩
theorem x_unmark (h : mkX u0 u) (hF : 10000 < F) : Tt (g_X6_unmarkAll F o 115 3800 u) (fun w => mkX u0 w) := by
  have eN : (Int32.ofNat 3800).toInt = 3800 := rfl
  unfold g_X6_unmarkAll
  refine tt_b (tt_lp (I := fun s => mkX u0 s.2 ∧ 0 ≤ s.1.toInt ∧ s.1.toInt ≤ 3800) (m := fun s => (3800 - s.1.toInt).toNat) (P := fun w => mkX u0 w) ?_ F _ ?_ ?_) (fun _ q => q)
  · rintro ⟨c, w⟩ ⟨h0, h1, h2⟩
    dsimp only at h0 h1 h2 ⊢
    unfold g_X6_unmarkAll_l2
    refine tt_if (fun _ => tt_r h0) (fun _ => tt_if (fun _ => tt_r h0) (fun h3 => ?_))
    rw [Int32.le_iff_toInt_le, eN] at h3
    have hi : inb c 3800 := by constructor <;> omega
    have := t_a1 (x := c) (by omega)
    exact tt_ck hi (tt_lt (tt_l ⟨⟨mk_Z h0, by dsimp only; omega⟩, by dsimp only; omega⟩))
  · dsimp only
    rw [t_0]
    omega
  · dsimp only
    rw [t_0]
    exact ⟨h, by omega⟩
theorem x_mark (h : mkX u0 u) : Tt (g_X6_mark F o 115 3800 x u) (fun w => mkX u0 w) := by
  unfold g_X6_mark
  exact tt_ob z_has6 (fun r hr => tt_if (fun _ => tt_s h) (fun q => tt_if (fun _ => tt_s h) (fun _ => tt_ck (hr q) (tt_lt (tt_s (mk_Z h))))))
theorem x_markBelow (h : mkX u0 u) (ho : isRn o) (hF : 10000 < F) : Tt (g_X6_markAllBelow F (o + 12) x 115 3800 u) (fun w => mkX u0 w) := by
  unfold g_X6_markAllBelow
  refine tt_ob (x_unmark h hF) (fun _ h1 => tt_ob (x_mark h1) (fun w2 h2 => tt_b (tt_lp (I := fun s => mkX u0 s.2 ∧ s.1.toInt ≤ 3799) (m := fun s => (s.1.toInt + 1).toNat) (P := fun w => mkX u0 w) ?_ F _ ?_ ?_) (fun _ q => q)))
  · rintro ⟨c, w⟩ ⟨h0, h3⟩
    dsimp only at h0 h3 ⊢
    unfold g_X6_markAllBelow_l22
    refine tt_if (fun _ => tt_r h0) (fun h4 => ?_)
    rw [Int32.lt_iff_toInt_lt, t_0] at h4
    have hi : inb c 3800 := by constructor <;> omega
    have := t_d1 (x := c) (by omega)
    have fin : ∀ w', mkX u0 w' → Tt (g_X6_markAllBelow_j56 F (o + 12) 115 3800 c w') (PS (fun s' : Int32 × rg_U => (mkX u0 s'.2 ∧ s'.1.toInt ≤ 3799) ∧ (s'.1.toInt + 1).toNat < (c.toInt + 1).toNat) (fun w : rg_U => mkX u0 w)) := fun w' hw' => tt_l ⟨⟨hw', by dsimp only; omega⟩, by dsimp only; omega⟩
    exact tt_ob (z_isMarked (by decide)) (fun _ _ => tt_if (fun _ => fin _ h0) (fun _ => tt_ck hi (tt_ob (x_mark h0) (fun _ h5 => tt_ck hi (tt_ob (x_mark h5) (fun _ h6 => fin _ h6))))))
  all_goals
    have hb := b_P (wy_k h2.1) ho
    have hs := t_s1 (x := rF w2 (o + 12) 11) (by omega)
    have hm : (imin x (rF w2 (o + 12) 11 - 1)).toInt ≤ 3799 := by
      unfold imin
      by_cases q : rF w2 (o + 12) 11 - 1 < x
      · rw [if_pos q]; omega
      · rw [if_neg q]
        rw [Int32.lt_iff_toInt_lt] at q
        omega
    dsimp only
  · omega
  · exact ⟨h2, hm⟩
theorem x_markAbove (h : mkX u0 u) (hF : 10000 < F) : Tt (g_X6_markAllAbove F o x 115 3800 u) (fun w => mkX u0 w) := by
  unfold g_X6_markAllAbove
  refine tt_ob (x_unmark h hF) (fun w1 h1 => tt_b (tt_lp (I := fun s => mkX u0 s.2 ∧ 0 ≤ s.1.toInt ∧ s.1.toInt ≤ 3800) (m := fun s => (3800 - s.1.toInt).toNat) (P := fun w => mkX u0 w) ?_ F _ ?_ ?_) (fun _ q => q))
  · rintro ⟨c, w⟩ ⟨h0, h3, h4⟩
    dsimp only at h0 h3 h4 ⊢
    unfold g_X6_markAllAbove_l7
    refine tt_if (fun _ => tt_r h0) (fun _ => tt_if (fun _ => tt_r h0) (fun h5 => ?_))
    rw [Int32.le_iff_toInt_le, t_3800] at h5
    have hi : inb c 3800 := by constructor <;> omega
    have := t_a1 (x := c) (by omega)
    have j64 : ∀ w', mkX u0 w' → Tt (g_X6_markAllAbove_j64 F o 115 3800 x c w') (PS (fun s' : Int32 × rg_U => (mkX u0 s'.2 ∧ 0 ≤ s'.1.toInt ∧ s'.1.toInt ≤ 3800) ∧ (3800 - s'.1.toInt).toNat < (3800 - c.toInt).toNat) (fun w : rg_U => mkX u0 w)) := fun w' hw' => tt_l ⟨⟨hw', by dsimp only; omega⟩, by dsimp only; omega⟩
    have j58 : Tt (g_X6_markAllAbove_j58 F o 115 3800 x c w) (PS (fun s' : Int32 × rg_U => (mkX u0 s'.2 ∧ 0 ≤ s'.1.toInt ∧ s'.1.toInt ≤ 3800) ∧ (3800 - s'.1.toInt).toNat < (3800 - c.toInt).toNat) (fun w : rg_U => mkX u0 w)) := by
      unfold g_X6_markAllAbove_j58
      exact tt_ob (x_mark h0) (fun _ h6 => j64 _ h6)
    exact tt_ck hi (tt_if (fun _ => j58) (fun _ => tt_ck hi (tt_ob (z_isMarked (by decide)) (fun _ _ => tt_if (fun _ => tt_ck hi (tt_ob (z_isMarked (by decide)) (fun _ _ => tt_if (fun _ => j64 _ h0) (fun _ => j58)))) (fun _ => j58)))))
  · dsimp only
    rw [t_0]
    omega
  · dsimp only
    rw [t_0]
    exact ⟨h1, by omega⟩
theorem mk_rests (h : mkX u0 u) (hG : wkG u0) (hF : 10000 < F) : Tt (g_X9_rests F x y z u) (fun z => mkX u0 z.2) := by
  unfold g_X9_rests
  exact tt_num (wx_G hG (wy_k h.1)) (tt_s h) (fun o ho => tt_ob z_hasT (fun r hr => tt_if (fun _ => tt_s h) (fun q => tt_if (fun _ => tt_s h) (fun _ => tt_ob (z_putBy (b_P (wy_k h.1) ho) hF) (fun _ _ => tt_ob (x_markBelow h ho hF) (fun _ h1 => tt_b (z_markedStep (by decide) hF) (fun _ _ => h1)))))))
theorem mk_hangs (h : mkX u0 u) (hG : wkG u0) (hF : 10000 < F) : Tt (g_X9_hangs F x y z u) (fun z => mkX u0 z.2) := by
  unfold g_X9_hangs
  have hp := t_pl (y := z)
  refine tt_num (wx_G hG (wy_k h.1)) (tt_s h) (fun o ho => tt_ob z_has3 (fun r hr => tt_if (fun _ => tt_s h) (fun q => tt_ob z_hasT (fun r hr => tt_if (fun _ => tt_s h) (fun q => tt_if (fun _ => tt_s h) (fun _ => tt_ob (x_markAbove h hF) (fun w1 h1 => tt_b (tt_lp (I := fun s => 0 ≤ s.2.toInt ∧ s.2.toInt ≤ 32) (m := fun s => (32 - s.2.toInt).toNat) (P := fun _ => True) ?_ F _ ?_ ?_) (fun _ _ => h1))))))))
  · rintro ⟨a, c⟩ ⟨h4, h5⟩
    dsimp only at h4 h5 ⊢
    unfold g_X9_hangs_l65 g_X9_hangs_j109
    refine tt_if (fun _ => tt_r trivial) (fun h6 => ?_)
    rw [Int32.le_iff_toInt_le] at h6
    have := t_a1 (x := c) (by omega)
    exact tt_ob (z_putBy (b_P (wy_k h1.1) ho) hF) (fun _ _ => tt_ob (z_isMarked (by decide)) (fun _ _ => tt_if (fun _ => tt_l (by dsimp only; omega)) (fun _ => tt_l (by dsimp only; omega))))
  · dsimp only
    rw [t_0]
    omega
  · dsimp only
    rw [t_0]
    omega
theorem Rel_mk (h : RelC pB uc um) (hl : mkX uc uc') : RelC pB uc' um := by
  obtain ⟨K, W, r1, r2, r3, r4, ⟨s1, s2, s3, s4, s5⟩, r6, r7, r8, r9⟩ := h
  have hK := r1.1.1.2.1
  have cf : ∀ k, uc'.1 k = uc.1 k := fun k => by rw [hl.2.1]
  have ca : ∀ j, j ≠ 115 → uc'.2.1 j = uc.2.1 j := hl.2.2
  refine ⟨K, W, r1, ⟨hl.1.1, wx_G r2.2 (wy_k hl.1)⟩, OutR_c r3 (cf _) (cf _) (cf _) (ca 7 (by omega)) rfl rfl, WR_c r4 (cf _) (cf _) rfl, ⟨(cf _).trans s1, (cf _).trans s2, (cf _).trans s3, (cf _).trans s4, fun hb => (cf _).trans (s5 hb)⟩, ?_, fun z k hz hk => ?_, fun h1 => ?_, fun q hq => ⟨?_, ?_⟩⟩
  · rw [show rG uc' 0 7 = rG uc 0 7 by unfold rG; rw [hl.1.2.1]]
    exact r6
  · rw [ca _ (by omega)]
    exact r7 z k hz hk
  · exact RR_f (r8 h1) (fun j j1 _ => ca j (by omega)) (fun k k1 k2 => cf k)
  · exact RR_f (r9 q hq).1 (fun j j1 _ => ca j (by omega)) (fun k k1 k2 => cf k)
  · exact (cf _).trans (r9 q hq).2
/-- both return, and what holds of both holds behind it; nothing of the answers -/
def SV (pB : Prop) (gc gm : rg_U → Option (Int32 × rg_U)) : Prop := ∀ uc um, RelC pB uc um → ∃ zc zm, gc uc = some zc ∧ gm um = some zm ∧ RelC pB zc.2 zm.2
theorem sv_rests (hF : 10000 < F) : SV pB (g_X9_rests F x y z) (g_X10_rests F x y z) := fun uc um h => by
  obtain ⟨K, W, r1, r2, -⟩ := id h
  obtain ⟨zc, e1, h1⟩ := mk_rests (F := F) (x := x) (y := y) (z := z) (mk_r r2.1) r2.2 hF
  rcases m_rests (F := F) (x := x) (y := y) (z := z) r1 hF with ⟨-, q⟩ | ⟨t, p, u', -, -, -, -, -, -, q, w, ce⟩
  · exact ⟨zc, _, e1, q, Rel_mk h h1⟩
  · exact ⟨zc, _, e1, q, Rel_e (Rel_mk h h1) r1 ce w⟩
theorem sv_hangs (hF : 10000 < F) : SV pB (g_X9_hangs F x y z) (g_X10_hangs F x y z) := fun uc um h => by
  obtain ⟨K, W, r1, r2, -⟩ := id h
  obtain ⟨zc, e1, h1⟩ := mk_hangs (F := F) (x := x) (y := y) (z := z) (mk_r r2.1) r2.2 hF
  rcases m_hangs (F := F) (x := x) (y := y) (z := z) r1 hF with ⟨q, -⟩ | ⟨t, e, u', -, -, -, -, -, -, -, q, w, ce⟩
  · exact ⟨zc, _, e1, q, Rel_mk h h1⟩
  · exact ⟨zc, _, e1, q, Rel_e (Rel_mk h h1) r1 ce w⟩
theorem sv_history (hF : 10000 < F) : SV pB (lf1 (g_X9_history F x y z)) (g_X10_history F x y z) := fun uc um h => by
  obtain ⟨K, W, r1, r2, -⟩ := id h
  obtain ⟨r, e1, -⟩ := wk_history (F := F) (x := x) (y := y) (z := z) (wx_r r2.1) r2.2 hF
  have e1' : lf1 (g_X9_history F x y z) uc = some (r, uc) := by unfold lf1; rw [e1, ob_i]
  rcases m_history (F := F) (x := x) (y := y) (z := z) r1 hF with ⟨-, q⟩ | ⟨p, u', -, -, -, -, -, q, w, ce⟩
  · exact ⟨_, _, e1', q, h⟩
  · exact ⟨_, _, e1', q, Rel_e h r1 ce w⟩
theorem sv_lf {gc gm : rg_U → Option Int32} (hc : ∀ u, wkB u → wkG u → Tt (gc u) (fun _ => True)) (hm : ∀ u K W, okM u K W → ∃ r, gm u = some r) : SV pB (lf1 gc) (lf1 gm) := fun uc um h => by
  obtain ⟨K, W, r1, r2, -⟩ := id h
  obtain ⟨r, e1, -⟩ := hc uc r2.1 r2.2
  obtain ⟨r', e2⟩ := hm um K W r1
  exact ⟨(r, uc), (r', um), by unfold lf1; rw [e1, ob_i], by unfold lf1; rw [e2, ob_i], h⟩
theorem in6_iff : (¬ x < 0 ∧ ¬ 6 < x) ↔ ¬ g_X10_isIn x 0 6 = 0 := by
  rw [in_0, Decidable.not_not, Int32.lt_iff_toInt_lt, Int32.lt_iff_toInt_lt, Int32.le_iff_toInt_le, Int32.le_iff_toInt_le, t_0]
  constructor
  · rintro ⟨a, b⟩; exact ⟨by omega, by omega⟩
  · rintro ⟨a, b⟩; exact ⟨by omega, by omega⟩
theorem sr_look (hF : 10000 < F) : SB True (lf1 (g_X9_look F x)) (lf1 (g_X10_look F x)) := fun uc um h => by
  obtain ⟨K, W, r1, r2, r3, r4, ⟨s1, s2, s3, s4, s5⟩, r6, r7, r8, r9⟩ := id h
  have hK := r1.1.1.2.1
  have key : g_X9_look F x uc = some (loA um W x) := by
    obtain ⟨A0, ⟨q1, q2, q3, q4⟩, q5, q6⟩ := id r3
    unfold g_X9_look loA
    by_cases q : g_X10_isIn x 0 6 = 0
    · have e : g_X9_look_j24 F x uc = some (if x = 7 then um.1 29 else if x = 8 then um.1 33 else if x = 9 then um.1 34 else if x = 10 then um.1 35 else if x = 11 then wtB um 0 8 else if x = 12 then wtB um 8 32 else -1000001) := by
        unfold g_X9_look_j24
        rw [s1, q2, q6, s5 trivial, r4.1, r4.2, r1.1.1.1, r1.1.2.2.2.2.2.2.1.1]
        by_cases x7 : x = 7
        · rw [if_pos x7, if_pos x7]
        rw [if_neg x7, if_neg x7]
        by_cases x8 : x = 8
        · rw [if_pos x8, if_pos x8]
        rw [if_neg x8, if_neg x8]
        by_cases x9 : x = 9
        · rw [if_pos x9, if_pos x9]
        rw [if_neg x9, if_neg x9]
        by_cases x10 : x = 10
        · rw [if_pos x10, if_pos x10]
        rw [if_neg x10, if_neg x10]
        by_cases x11 : x = 11
        · rw [if_pos x11, if_pos x11]
        rw [if_neg x11, if_neg x11]
        by_cases x12 : x = 12
        · rw [if_pos x12, if_pos x12]
        rw [if_neg x12, if_neg x12]
      rw [if_pos q]
      by_cases z1 : x < 0
      · rw [if_pos z1]; exact e
      · rw [if_neg z1]
        by_cases z2 : 6 < x
        · rw [if_pos z2]; exact e
        · exact absurd q (in6_iff.mp ⟨z1, z2⟩)
    · obtain ⟨z1, z2⟩ := in6_iff.mpr q
      rw [if_neg z1, if_neg z2, if_neg q]
      rcases Rel_ask (F := F) h r1 with ⟨e5, en⟩ | ⟨ea, e5, h5, en, hR⟩
      · rw [en, ob_i, om_0, if_pos e5]
        rfl
      · have hro := r1.1.2.2.2.2.1 _ ea
        obtain ⟨N, hS⟩ := hR.2.2.2.2.2.2
        obtain ⟨b1, b2, b3, b4⟩ := hR.2.2.2.2.2.1
        obtain ⟨c1, c2, -⟩ := hR.2.2.2.1
        have h9 : rF uc (oR (aR um)) 9 = um.2.1 21 (aR um) := hS.1.trans hro.2.1.symm
        have hU : rF uc (oR (aR um) + 28) 3 = um.2.1 23 (aR um) := c1.trans hro.2.2.1.symm
        have hD : rF uc (oR (aR um) + 28) 4 = um.2.1 24 (aR um) := c2.trans hro.2.2.2.1.symm
        have hst : ob (g_X9_isKept F (rF uc 0 8) uc) (fun r3 => if r3 = 0 then (ob (g_X7_statusWith F (oR (aR um)) uc) (fun r6 => some r6)) else (some (rF uc (oR (aR um)) 14))) = some (if aR um = 4 then stM um W else um.2.1 22 (aR um)) := by
          rcases r1.1.1.2.2 with k | ⟨r, hr, k⟩
          · have eA : aR um = 4 := by unfold aR; rw [if_pos k]
            have hk : g_X9_isKept F (rF uc 0 8) uc = some 0 := by
              unfold g_X9_isKept
              rw [s2, k, if_pos (by decide)]
            rw [eA] at hR e5 ⊢
            rw [hk, ob_i, if_pos rfl, c_status r1 e5 hR r3, ob_i, if_pos rfl]
          · have eA : aR um = r := by unfold aR; rw [if_neg (by rw [k]; exact nI_m1 (by omega)), k, tnn (by omega)]
            have hk : g_X9_isKept F (rF uc 0 8) uc = some 1 := by
              unfold g_X9_isKept
              rw [s2, k, if_neg (nI_pos (by omega)), s1, if_neg (nI_ge hr (by omega)), if_neg (show ¬ (4 : Int32) ≤ nI r from nI_ge (a := r) (b := 4) (by omega) (by decide))]
            rw [hk, ob_i, if_neg one_n0, eA, if_neg (by omega), oR_r (by omega), (r9 r hr).2]
        rw [en, ob_i, om_i, ck_t (oR_rn h5), if_neg (by rw [e5]; exact one_n0)]
        unfold g_X9_lookAtRun ofA
        rw [hst, h9, hU, hD, b1, b3 trivial, b4]
        by_cases x0 : x = 0
        · rw [if_pos x0, if_pos x0, ob_i]
        rw [if_neg x0, if_neg x0]
        by_cases x1 : x = 1
        · rw [if_pos x1, if_pos x1, ob_i]
        rw [if_neg x1, if_neg x1]
        by_cases x2 : x = 2
        · rw [if_pos x2, if_pos x2, ob_i]
        rw [if_neg x2, if_neg x2]
        by_cases x3 : x = 3
        · rw [if_pos x3, if_pos x3, ob_i]
        rw [if_neg x3, if_neg x3]
        by_cases x4 : x = 4
        · rw [if_pos x4, if_pos x4, ob_i]
        rw [if_neg x4, if_neg x4]
        by_cases x5 : x = 5
        · rw [if_pos x5, if_pos x5, ob_i]
        rw [if_neg x5, if_neg x5, ob_i]
  exact ⟨(loA um W x, uc), (loA um W x, um), by unfold lf1; rw [key, ob_i], by unfold lf1; rw [m_look r1.1 hF, ob_i], rfl, h⟩
end YO
end W_91
section W_92
-- 97zzy.bits
/-! what rests on what: the reference's bits are its sets -/
theorem bt_nI {k i : Nat} (hi : i < 32) : bt (nI k) i = k.testBit i := by
  show (BitVec.ofNat 32 k).getLsbD i = _
  rw [BitVec.getLsbD_ofNat, decide_eq_true hi, Bool.true_and]
theorem b_31 : ∀ i, i < 32 → bt 31 i = decide (i < 5) := by decide +kernel
theorem nI_31 {k : Nat} : nI k &&& 31 = nI (k % 32) := by
  refine b_ext fun i hi => ?_
  rw [b_and, b_31 i hi, bt_nI hi, bt_nI hi, show k % 32 = k % 2 ^ 5 from rfl, Nat.testBit_mod_two_pow, Bool.and_comm]
def TB (R : Nat → Int32) (p k : Nat) : Prop := bt (R (119 * p + k / 32)) (k % 32) = true
def bA (A : Nat → Int32) (k : Nat) : Prop := bt (A (k / 32)) (k % 32) = true
section ZB
variable {R A : Nat → Int32} {p p' k k' l n T : Nat} {c : Prop}
theorem rbt_b : ¬ rbt R p k = 0 ↔ TB R p k := by
  unfold rbt TB
  rw [nI_31, ← bt_shr (k := k % 32) (Nat.mod_lt k (by decide))]
  by_cases q : (dx_shr (R (119 * p + k / 32)) (nI (k % 32)) &&& 1) = 1
  · rw [if_pos q]
    exact ⟨fun _ => q, fun _ => by decide⟩
  · rw [if_neg q]
    exact ⟨fun w => absurd rfl w, fun w => absurd w q⟩
theorem bA_cl (hk : k < 3808) : bA (clA A) k ↔ False := by
  unfold bA clA
  rw [if_pos (show k / 32 < 119 by omega), b_0]
  exact ⟨fun w => absurd w Bool.false_ne_true, False.elim⟩
theorem bA_or (hk : k < 3808) : bA (orB A R p) k ↔ (bA A k ∨ TB R p k) := by
  unfold bA orB TB
  rw [if_pos (show k / 32 < 119 by omega), b_or, Bool.or_eq_true_iff]
theorem bA_add : bA (addB A k') k ↔ (bA A k ∨ k = k') := by
  unfold bA addB
  by_cases q : k / 32 = k' / 32
  · rw [q, pk_us, b_or, Bool.or_eq_true_iff, nI_31, bt_shl (Nat.mod_lt _ (by decide)) (Nat.mod_lt _ (by decide)), decide_eq_true_eq]
    exact or_congr Iff.rfl ⟨fun w => by omega, fun w => by rw [w]⟩
  · rw [pk_un q]
    exact ⟨Or.inl, fun w => w.elim id (fun z => absurd (by rw [z]) q)⟩
theorem bA_ifo [Decidable c] (hk : k < 3808) : bA (if c then orB A R p else A) k ↔ (bA A k ∨ (c ∧ TB R p k)) := by
  by_cases q : c
  · rw [if_pos q, bA_or hk]
    exact or_congr Iff.rfl ⟨fun w => ⟨q, w⟩, fun w => w.2⟩
  · rw [if_neg q]
    exact ⟨Or.inl, fun w => w.elim id (fun z => absurd z.1 q)⟩
theorem bA_ifa [Decidable c] : bA (if c then addB A k' else A) k ↔ (bA A k ∨ (c ∧ k = k')) := by
  by_cases q : c
  · rw [if_pos q, bA_add]
    exact or_congr Iff.rfl ⟨fun w => ⟨q, w⟩, fun w => w.2⟩
  · rw [if_neg q]
    exact ⟨Or.inl, fun w => w.elim id (fun z => absurd z.1 q)⟩
theorem TB_st (hk : k < 3808) : TB (stR R A p) p' k ↔ (if p' = p then bA A k else TB R p' k) := by
  unfold TB stR bA
  by_cases q : p' = p
  · rw [if_pos q, q, if_pos (show 119 * p ≤ 119 * p + k / 32 ∧ 119 * p + k / 32 < 119 * p + 119 by omega), Nat.add_sub_cancel_left]
  · rw [if_neg q, if_neg (show ¬ (119 * p ≤ 119 * p' + k / 32 ∧ 119 * p' + k / 32 < 119 * p + 119) by omega)]
theorem lkA_b {P : Prg} {m : Row} {x : Nat} (hx : x < 3808) : bA (lkA P m l R A) x ↔ lkS P m l (TB R) x := by
  unfold lkA lkS
  dsimp only
  by_cases q : kindOf P (m 120) = -1
  · rw [if_pos q, bA_cl hx]
    exact ⟨False.elim, fun w => w.1 q⟩
  · rw [if_neg q, bA_add, bA_ifa, bA_ifo hx, bA_ifo hx, bA_ifo hx, bA_ifo hx, bA_cl hx, and_iff_right q]
theorem pkS_e {L : Lg} {lo : Nat} {S S' : SetB} (h : ∀ p k, p < 40 → k < 3808 → (S p k ↔ S' p k)) : ∀ f p k, p < 40 → k < 3808 → (pkS L lo f S p k ↔ pkS L lo f S' p k)
  | 0, p, k, hp, hk => h p k hp hk
  | f + 1, p, k, hp, hk => by
    show stP (pkS L lo f S) (fun k => k = 3008 + (lo + f)) (tn (L.2.2.2.1 (lo + f))) p k ↔ stP (pkS L lo f S') (fun k => k = 3008 + (lo + f)) (tn (L.2.2.2.1 (lo + f))) p k
    by_cases q : p = tn (L.2.2.2.1 (lo + f))
    · rw [← q, stP_y, stP_y]
    · rw [stP_n q, stP_n q]
      exact pkS_e h f p k hp hk
theorem rpk_b {L : Lg} (hL : okL L n) : ∀ (f : Nat) (m : Row) (l : Nat) (R A : Nat → Int32), n - l = f → l ≤ n → ∀ p k, p < 40 → k < 3808 → (TB (rpk L n f m l R A).1 p k ↔ pkS L l ((spk L n m l).2 - l) (TB R) p k)
  | 0, m, l, R, A, hf, hl, p, k, hp, hk => by
    have e0 : (spk L n m l).2 - l = 0 := by
      rw [spk_no (fun q => absurd q.1 (by omega))]
      exact Nat.sub_self l
    rw [e0]
    exact Iff.rfl
  | f + 1, m, l, R, A, hf, hl, p, k, hp, hk => by
    by_cases q : l < n ∧ L.2.1 l = 2 ∧ L.1 l = m 133
    · have hle := (spk_le (L := L) (n := n) (n - (l + 1)) (mput m (tn (L.2.2.2.1 l)) (L.2.2.2.2 l) (L.2.2.1 l)) (l + 1) rfl (by omega)).1
      obtain ⟨pl, hpl, epl⟩ := hL l q.1 q.2.1
      have ih := rpk_b hL f (mput m (tn (L.2.2.2.1 l)) (L.2.2.2.2 l) (L.2.2.1 l)) (l + 1) (stR R (addB (clA A) (3008 + l)) (tn (L.2.2.2.1 l))) (addB (clA A) (3008 + l)) (by omega) (by omega) p k hp hk
      unfold rpk
      rw [if_pos q, ih, spk_yes q]
      generalize (spk L n (mput m (tn (L.2.2.2.1 l)) (L.2.2.2.2 l) (L.2.2.1 l)) (l + 1)).2 = e at *
      rw [show e - l = (e - (l + 1)) + 1 by omega, pkS_1]
      refine pkS_e (fun p' k' hp' hk' => ?_) _ p k hp hk
      have ept : tn (L.2.2.2.1 l) = pl := by rw [epl, tnn (by omega)]
      rw [ept, TB_st hk', bA_add, bA_cl hk']
      by_cases z : p' = pl
      · rw [if_pos z, z, stP_y]
        exact ⟨fun w => w.elim False.elim id, Or.inr⟩
      · rw [if_neg z, stP_n z]
    · have e0 : (spk L n m l).2 - l = 0 := by
        rw [spk_no q]
        exact Nat.sub_self l
      unfold rpk
      rw [if_neg q, e0]
      exact Iff.rfl
theorem reg40 {x : Int32} (h : isReg x) : tn x < 40 := by
  obtain ⟨p, hp, e⟩ := h
  rw [e, tnn (by omega)]
  omega
theorem lkS_e {P : Prg} {m : Row} {S S' : SetB} {x : Nat} (hP : okP P) (hm : okR m) (hx : x < 3808) (h : ∀ p k, p < 40 → k < 3808 → (S p k ↔ S' p k)) : lkS P m l S x ↔ lkS P m l S' x := by
  obtain ⟨cn, hc1, hc2⟩ := hm.1
  unfold lkS
  refine and_congr_right (fun q => ?_)
  rw [hc2] at q
  obtain ⟨c64, ek⟩ := kind_in hc1 q
  have hv := hP cn c64
  rw [← ek] at hv
  rw [hc2, tnn (show cn < 2 ^ 31 by omega)]
  generalize kindOf P (nI cn) = k at *
  refine or_congr (or_congr (or_congr (or_congr (or_congr (or_congr Iff.rfl ?_) ?_) ?_) ?_) Iff.rfl) Iff.rfl
  · refine and_congr_right (fun c => h _ _ (reg40 ?_) hx)
    rcases c with c | c | c | c | c | c
    · exact (fine_b hv (Or.inl c)).2
    · exact (fine_b hv (Or.inr (Or.inl c))).2
    · exact (fine_b hv (Or.inr (Or.inr (Or.inr c)))).2
    · exact (fine_b hv (Or.inr (Or.inr (Or.inl c)))).2
    · exact (fine_c hv (Or.inl c)).2.1
    · exact (fine_c hv (Or.inr c)).2.1
  · exact and_congr_right (fun c => h _ _ (reg40 (fine_c hv c).2.2) hx)
  · exact and_congr_right (fun c => h _ _ (reg40 (fine_b hv (Or.inr (Or.inr (Or.inr c)))).1) hx)
  · refine and_congr_right (fun c => h _ _ ?_ hx)
    obtain ⟨j, hj, j1, j2⟩ := in_nat c.2 (by decide)
    have e31 : (31 : Int32).toInt = 31 := rfl
    rw [hj, tnn (by omega)]
    omega
theorem rsR_b {P : Prg} {L : Lg} (hG : okG P L n T) (hR : ∀ i, i < 4760 → R i = 0) : ∀ t, t ≤ T → ∀ p k, p < 40 → k < 3808 → (TB (rsR P L n R A t).1 p k ↔ rS P L (rp P L n) t p k)
  | 0, ht, p, k, hp, hk => by
    show TB (rpk L n n zrow 0 R A).1 p k ↔ pkS L 0 (spk L n zrow 0).2 (fun _ _ => False) p k
    rw [rpk_b hG.2.1 n zrow 0 R A (by omega) (by omega) p k hp hk, Nat.sub_zero]
    refine pkS_e (fun p' k' hp' hk' => ?_) _ p k hp hk
    unfold TB
    rw [hR _ (by omega), b_0]
    exact ⟨fun w => absurd w Bool.false_ne_true, False.elim⟩
  | t + 1, ht, p, k, hp, hk => by
    obtain ⟨i1, i2, i3⟩ := rp_ok hG t (by omega)
    have ih := rsR_b hG hR t (by omega)
    have hput := step_put (num := L.2.2.1 (rp P L n t).2) (en := nI (rp P L n t).2) hG.1 i1
    have hle : loS P L (rp P L n t).1 (rp P L n t).2 ≤ n := by
      have htk := nxt_l (num := L.2.2.1 (rp P L n t).2) hG.1 i1 (show (rp P L n t).2 < 2 ^ 31 by have := hG.2.2.1; omega)
      unfold loS
      rcases htk with q | ⟨q1, q2⟩
      · rw [if_pos q]
        exact i3
      · rw [if_neg q2]
        exact hG.2.2.2.2 t (by omega) q1
    show TB (rsN P L n (rp P L n t).1 (rp P L n t).2 (rsR P L n R A t).1 (rsR P L n R A t).2).1 p k ↔ pkS L (loS P L (rp P L n t).1 (rp P L n t).2) ((nxt P L n (rp P L n t).1 (rp P L n t).2).2 - loS P L (rp P L n t).1 (rp P L n t).2) (stS P L (rp P L n t).1 (rp P L n t).2 (rS P L (rp P L n) t)) p k
    generalize (rp P L n t).1 = m at *
    generalize (rp P L n t).2 = l at *
    generalize (rsR P L n R A t).1 = R1 at *
    generalize (rsR P L n R A t).2 = A1 at *
    generalize rS P L (rp P L n) t = S at *
    show TB (rpk L n (n - loS P L m l) (mstep P m (L.2.2.1 l) (nI l)).1 (loS P L m l) (if (mstep P m (L.2.2.1 l) (nI l)).2.2.2 = -1 then R1 else stR R1 (lkA P m l R1 A1) (tn (mstep P m (L.2.2.1 l) (nI l)).2.2.2)) (lkA P m l R1 A1)).1 p k ↔ pkS L (loS P L m l) ((spk L n (mstep P m (L.2.2.1 l) (nI l)).1 (loS P L m l)).2 - loS P L m l) (stS P L m l S) p k
    rw [rpk_b hG.2.1 _ _ _ _ _ rfl hle p k hp hk]
    refine pkS_e (fun p' k' hp' hk' => ?_) _ p k hp hk
    unfold stS
    by_cases z : (mstep P m (L.2.2.1 l) (nI l)).2.2.2 = -1
    · rw [if_pos z, if_pos z]
      exact ih p' k' hp' hk'
    · rw [if_neg z, if_neg z]
      obtain ⟨pl, hpl, epl⟩ := hput.resolve_left z
      rw [epl, tnn (by omega), TB_st hk', lkA_b hk', lkS_e hG.1 i1 hk' ih]
      by_cases y : p' = pl
      · rw [if_pos y, y, stP_y]
      · rw [if_neg y, stP_n y]
        exact ih p' k' hp' hk'
theorem rsB_S {um : rg_U} {r t : Nat} (hG : okG (Pm um r) (Lm um r) (nr um r) T) (ht : t ≤ T) (hp : p < 40) (hk : k < 3808) : ¬ rsB um r t p k = 0 ↔ rS (Pm um r) (Lm um r) (rpm um r) t p k := by
  unfold rsB
  rw [rbt_b]
  exact rsR_b hG (fun i hi => if_pos hi) t ht p k hp hk
end ZB
end W_92
section W_93
-- 97zzyb.marks
/-! the class: marks -/
def MkO (u w : rg_U) : Prop := w.1 = u.1 ∧ w.2.2 = u.2.2 ∧ ∀ j, j ≠ 115 → w.2.1 j = u.2.1 j
/-- what a put has of its own -/
def ownK (u : rg_U) (q n k : Nat) : Prop := (k < 3008 ∧ u.2.1 (q + 7) n = nI k) ∨ ∃ j, j < 800 ∧ u.2.1 (q + 8) n = nI j ∧ k = 3008 + j
abbrev inU (u : rg_U) (q N : Nat) (x : Int32) (k : Nat) : Prop := inS (u.2.1 (q + 7)) (u.2.1 (q + 8)) (u.2.1 (q + 9)) (u.2.1 (q + 10)) N x k
abbrev RsU (u : rg_U) (q N n k : Nat) : Prop := RsT (u.2.1 (q + 7)) (u.2.1 (q + 8)) (u.2.1 (q + 9)) (u.2.1 (q + 10)) N n k
section ZC
variable {F q N : Nat} {u u0 w : rg_U} {x : Int32}
theorem MK_r : MkO u u := ⟨rfl, rfl, fun _ _ => rfl⟩
theorem MK_t {v : rg_U} (h : MkO u w) (h2 : MkO w v) : MkO u v := ⟨h2.1.trans h.1, h2.2.1.trans h.2.1, fun j hj => (h2.2.2 j hj).trans (h.2.2 j hj)⟩
theorem MK_R {n : Nat} {v : Int32} (h : MkO u0 u) : MkO u0 (rg_R u 115 n v) := ⟨h.1, h.2.1, fun j hj => (R_n hj).trans (h.2.2 j hj)⟩
theorem MK_N (h : MkO u0 u) (hN : rF u0 q 11 = nI N) : rF u q 11 = nI N := by
  unfold rF at *
  rw [h.1]
  exact hN
theorem RsU_at {n k : Nat} (hn : n < N) (hN : N < 2 ^ 31) (ha : isPt n (u.2.1 (q + 9) n)) (hb : isPt n (u.2.1 (q + 10) n)) : RsU u q N n k ↔ (ownK u q n k ∨ inU u q N (u.2.1 (q + 9) n) k ∨ inU u q N (u.2.1 (q + 10) n) k) := by
  unfold RsU inU ownK
  rw [RsT_up (M := n + 1) (Nat.lt_succ_self n) N hn, RsT_s, inS_cut (N := N) (M := n) (M' := n) ha (Nat.le_refl n) (by omega) hN, inS_cut (N := N) (M := n) (M' := n) hb (Nat.le_refl n) (by omega) hN]
  exact or_assoc.symm
theorem c_unmark (hN : rF u q 11 = nI N) (h8 : N ≤ 3800) (hF : 10000 < F) : Tt (g_X6_unmarkAll F q 115 3800 u) (fun w => MkO u w ∧ ∀ n, n < N → w.2.1 115 n = 0) := by
  unfold g_X6_unmarkAll
  refine tt_b (tt_lp (I := fun s => ∃ m, m ≤ N ∧ s.1 = nI m ∧ MkO u s.2 ∧ ∀ n, n < m → s.2.2.1 115 n = 0) (m := fun s => ((N : Int) - s.1.toInt).toNat) (P := fun w => MkO u w ∧ ∀ n, n < N → w.2.1 115 n = 0) ?_ F _ ?_ ?_) (fun _ z => z)
  · rintro ⟨a, v⟩ ⟨m, h1, h2, h3, h4⟩
    dsimp only at h2 h3 h4 ⊢
    subst h2
    unfold g_X6_unmarkAll_l2
    rw [MK_N h3 hN]
    by_cases z : m < N
    · rw [if_neg (nI_ge z (by omega)), if_neg (show ¬ (Int32.ofNat 3800) ≤ nI m from nI_ge (a := m) (b := 3800) (by omega) (by decide)), ck_t (inb_nI (by omega) (by decide)), lt1_i, sZ_nI (by omega), nar0]
      refine tt_l ⟨⟨m + 1, by omega, by show nI m + 1 = nI (m + 1); rw [nI_1], MK_R h3, fun n hn => ?_⟩, ms_u z (by omega)⟩
      show (rg_R v 115 m 0).2.1 115 n = 0
      rw [R_at]
      by_cases y : n = m
      · rw [if_pos ⟨rfl, y⟩]
      · rw [if_neg (fun w => y w.2)]
        exact h4 n (by omega)
    · rw [if_pos (nI_le (by omega) (by omega))]
      exact tt_r ⟨h3, fun n hn => h4 n (by omega)⟩
  · exact ms_0 (by omega)
  · exact ⟨0, Nat.zero_le _, rfl, MK_r, fun n hn => absurd hn (Nat.not_lt_zero n)⟩
theorem c_mark (hN : rF u q 11 = nI N) (h8 : N ≤ 3800) (hx : isPt N x) : Tt (g_X6_mark F q 115 3800 x u) (fun w => MkO u w ∧ ∀ n, n < N → (¬ w.2.1 115 n = 0 ↔ (¬ u.2.1 115 n = 0 ∨ x = nI n))) := by
  unfold g_X6_mark
  rcases hx with rfl | ⟨m, hm, rfl⟩
  · rw [x6_has_n, ob_i, if_pos rfl]
    exact tt_s ⟨MK_r, fun n hn => ⟨Or.inl, fun z => z.elim id (fun e => absurd e.symm (nI_m1 (by omega)))⟩⟩
  · rw [x6_has_y hN h8 hm, ob_i, if_neg (by decide), if_neg (show ¬ (Int32.ofNat 3800) ≤ nI m from nI_ge (a := m) (b := 3800) (by omega) (by decide)), ck_t (inb_nI (by omega) (by decide)), lt1_i, sZ_nI (by omega), nar1]
    refine tt_s ⟨MK_R MK_r, fun n hn => ?_⟩
    rw [R_at]
    by_cases y : n = m
    · rw [if_pos ⟨rfl, y⟩]
      exact ⟨fun _ => Or.inr (by rw [y]), fun _ => by decide⟩
    · rw [if_neg (fun w => y w.2)]
      exact ⟨Or.inl, fun z => z.elim id (fun e => absurd (nI_inj (by omega) (by omega) e).symm y)⟩
theorem c_isM (h8 : N ≤ 3800) (hx : isPt N x) : Tt (g_X9_isMarked F 115 3800 x u) (fun r => ¬ r = 0 ↔ ∃ n, n < N ∧ x = nI n ∧ ¬ u.2.1 115 n = 0) := by
  unfold g_X9_isMarked
  rcases hx with rfl | ⟨m, hm, rfl⟩
  · rw [if_pos (by decide)]
    refine tt_s ⟨fun z => absurd rfl z, ?_⟩
    rintro ⟨n, hn, e, -⟩
    exact absurd e.symm (nI_m1 (by omega))
  · rw [if_neg (nI_pos (by omega)), if_neg (show ¬ (Int32.ofNat 3800) ≤ nI m from nI_ge (a := m) (b := 3800) (by omega) (by decide)), ck_t (inb_nI (by omega) (by decide)), rA_nI (by omega)]
    by_cases y : u.2.1 115 m = 0
    · rw [if_pos y]
      refine tt_s ⟨fun z => absurd rfl z, ?_⟩
      rintro ⟨n, hn, e, w⟩
      rw [← nI_inj (by omega) (by omega) e] at w
      exact absurd y w
    · rw [if_neg y]
      exact tt_s ⟨fun _ => ⟨m, hm, rfl, y⟩, fun _ => by decide⟩
/-- what is marked below x: what x rests on -/
theorem c_markBelow (hN : rF u q 11 = nI N) (h8 : N ≤ 3800) (hq : 115 < q) (hx : isPt N x) (hab : ∀ n, n < N → isPt n (u.2.1 (q + 9) n) ∧ isPt n (u.2.1 (q + 10) n)) (hF : 10000 < F) : Tt (g_X6_markAllBelow F q x 115 3800 u) (fun w => MkO u w ∧ ∀ k, inU u q N x k ↔ ∃ n, n < N ∧ ¬ w.2.1 115 n = 0 ∧ ownK u q n k) := by
  unfold g_X6_markAllBelow
  refine tt_ob (c_unmark hN h8 hF) (fun w1 h1 => tt_ob (c_mark (MK_N h1.1 hN) h8 hx) (fun w2 h2 => tt_b (tt_lp (I := fun s => ∃ M, M ≤ N ∧ s.1 = nI M - 1 ∧ MkO u s.2 ∧ ∀ k, inU u q N x k ↔ ((∃ n, M ≤ n ∧ n < N ∧ ¬ s.2.2.1 115 n = 0 ∧ ownK u q n k) ∨ ∃ n, n < M ∧ ¬ s.2.2.1 115 n = 0 ∧ RsU u q N n k)) (m := fun s => (s.1.toInt + 1).toNat) (P := fun w => MkO u w ∧ ∀ k, inU u q N x k ↔ ∃ n, n < N ∧ ¬ w.2.1 115 n = 0 ∧ ownK u q n k) ?_ F _ ?_ ?_) (fun _ z => z)))
  · rintro ⟨a, v⟩ ⟨M, g1, g2, g3, g4⟩
    dsimp only at g2 g3 g4 ⊢
    unfold g_X6_markAllBelow_l22 g_X6_markAllBelow_j56
    cases M with
    | zero =>
      rw [if_pos (by rw [g2]; decide)]
      refine tt_r ⟨g3, fun k => (g4 k).trans ⟨?_, ?_⟩⟩
      · rintro (⟨n, -, a2, a3, a4⟩ | ⟨n, a1, -⟩)
        · exact ⟨n, a2, a3, a4⟩
        · exact absurd a1 (Nat.not_lt_zero n)
      · rintro ⟨n, a2, a3, a4⟩
        exact Or.inl ⟨n, Nat.zero_le n, a2, a3, a4⟩
    | succ M =>
      have ea : a = nI M := by rw [g2]; exact nI_pred M
      subst ea
      obtain ⟨pa, pb⟩ := hab M (by omega)
      have ev : ∀ j, j ≠ 115 → v.2.1 j = u.2.1 j := g3.2.2
      rw [if_neg (nI_pos (by omega))]
      refine tt_ob (c_isM h8 (Or.inr ⟨M, by omega, rfl⟩)) (fun r hr => ?_)
      by_cases z : r = 0
      · rw [if_pos z]
        have hM : ¬ ¬ v.2.1 115 M = 0 := fun y => (hr.mpr ⟨M, by omega, rfl, y⟩) z
        refine tt_l ⟨⟨M, by omega, by show nI M + -1 = nI M - 1; rw [Int32.sub_eq_add_neg], g3, fun k => (g4 k).trans ⟨?_, ?_⟩⟩, ms_d1 (by omega)⟩
        · rintro (⟨n, a1, a2, a3, a4⟩ | ⟨n, a1, a2, a3⟩)
          · exact Or.inl ⟨n, by omega, a2, a3, a4⟩
          · rcases Nat.lt_or_ge n M with y | y
            · exact Or.inr ⟨n, y, a2, a3⟩
            · rw [show n = M by omega] at a2
              exact absurd a2 hM
        · rintro (⟨n, a1, a2, a3, a4⟩ | ⟨n, a1, a2, a3⟩)
          · rcases Nat.lt_or_ge M n with y | y
            · exact Or.inl ⟨n, y, a2, a3, a4⟩
            · have a3' : ¬ v.2.1 115 n = 0 := a3
              rw [show n = M by omega] at a3'
              exact absurd a3' hM
          · exact Or.inr ⟨n, by omega, a2, a3⟩
      · rw [if_neg z]
        obtain ⟨m0, m1, m2, m3⟩ := hr.mp z
        have hM : ¬ v.2.1 115 M = 0 := by rw [nI_inj (by omega) (by omega) m2]; exact m3
        have hi : inb (nI M) 3800 := inb_nI (by omega) (by decide)
        rw [ck_t hi, rA_nI (by omega), ev (q + 9) (by omega)]
        refine tt_ob (c_mark (MK_N g3 hN) h8 (isPt_le pa (by omega))) (fun v1 k1 => ?_)
        rw [ck_t hi, rA_nI (by omega), k1.1.2.2 (q + 10) (by omega), ev (q + 10) (by omega)]
        refine tt_ob (c_mark (MK_N (MK_t g3 k1.1) hN) h8 (isPt_le pb (by omega))) (fun v2 k2 => ?_)
        have hmk : ∀ n, n < N → (¬ v2.2.1 115 n = 0 ↔ ((¬ v.2.1 115 n = 0 ∨ u.2.1 (q + 9) M = nI n) ∨ u.2.1 (q + 10) M = nI n)) := fun n hn => by rw [k2.2 n hn, k1.2 n hn]
        have na : ∀ n, M ≤ n → n < N → ¬ u.2.1 (q + 9) M = nI n := fun n y1 y2 e => by
          rcases pa with w | ⟨i, i1, w⟩
          · rw [w] at e; exact nI_m1 (by omega) e.symm
          · rw [w] at e
            have := nI_inj (by omega) (by omega) e
            omega
        have nb : ∀ n, M ≤ n → n < N → ¬ u.2.1 (q + 10) M = nI n := fun n y1 y2 e => by
          rcases pb with w | ⟨i, i1, w⟩
          · rw [w] at e; exact nI_m1 (by omega) e.symm
          · rw [w] at e
            have := nI_inj (by omega) (by omega) e
            omega
        have hat := fun k => RsU_at (u := u) (q := q) (N := N) (n := M) (k := k) (by omega) (by omega) pa pb
        refine tt_l ⟨⟨M, by omega, by show nI M + -1 = nI M - 1; rw [Int32.sub_eq_add_neg], MK_t (MK_t g3 k1.1) k2.1, fun k => (g4 k).trans ⟨?_, ?_⟩⟩, ms_d1 (by omega)⟩
        · rintro (⟨n, a1, a2, a3, a4⟩ | ⟨n, a1, a2, a3⟩)
          · exact Or.inl ⟨n, by omega, a2, (hmk n a2).mpr (Or.inl (Or.inl a3)), a4⟩
          · rcases Nat.lt_or_ge n M with y | y
            · exact Or.inr ⟨n, y, (hmk n (by omega)).mpr (Or.inl (Or.inl a2)), a3⟩
            · rw [show n = M by omega] at a3
              rcases (hat k).mp a3 with w | ⟨i, i1, i2, i3⟩ | ⟨i, i1, i2, i3⟩
              · exact Or.inl ⟨M, Nat.le_refl M, by omega, (hmk M (by omega)).mpr (Or.inl (Or.inl hM)), w⟩
              · have hiM : i < M := by
                  rcases Nat.lt_or_ge i M with y2 | y2
                  · exact y2
                  · exact absurd i2 (na i y2 i1)
                exact Or.inr ⟨i, hiM, (hmk i i1).mpr (Or.inl (Or.inr i2)), i3⟩
              · have hiM : i < M := by
                  rcases Nat.lt_or_ge i M with y2 | y2
                  · exact y2
                  · exact absurd i2 (nb i y2 i1)
                exact Or.inr ⟨i, hiM, (hmk i i1).mpr (Or.inr i2), i3⟩
        · rintro (⟨n, a1, a2, a3, a4⟩ | ⟨n, a1, a2, a3⟩)
          · have a3' : ¬ v.2.1 115 n = 0 := by
              rcases (hmk n a2).mp a3 with (w | w) | w
              · exact w
              · exact absurd w (na n a1 a2)
              · exact absurd w (nb n a1 a2)
            rcases Nat.lt_or_ge M n with y | y
            · exact Or.inl ⟨n, y, a2, a3', a4⟩
            · rw [show n = M by omega] at a4
              exact Or.inr ⟨M, Nat.lt_succ_self M, hM, (hat k).mpr (Or.inl a4)⟩
          · rcases (hmk n (by omega)).mp a2 with (w | w) | w
            · exact Or.inr ⟨n, by omega, w, a3⟩
            · exact Or.inr ⟨M, Nat.lt_succ_self M, hM, (hat k).mpr (Or.inr (Or.inl ⟨n, by omega, w, a3⟩))⟩
            · exact Or.inr ⟨M, Nat.lt_succ_self M, hM, (hat k).mpr (Or.inr (Or.inr ⟨n, by omega, w, a3⟩))⟩
  all_goals
    have eN : rF w2 q 11 = nI N := MK_N (MK_t h1.1 h2.1) hN
    have hst : ∃ M, M ≤ N ∧ imin x (rF w2 q 11 - 1) = nI M - 1 ∧ (x = -1 ∧ M = 0 ∨ ∃ m, m < N ∧ x = nI m ∧ M = m + 1) := by
      rw [eN]
      unfold imin
      rcases hx with e | ⟨m, hm, e⟩
      · refine ⟨0, Nat.zero_le N, ?_, Or.inl ⟨e, rfl⟩⟩
        rw [e]
        cases N with
        | zero => decide
        | succ N =>
          rw [nI_pred, if_neg (fun w => by
            rw [Int32.lt_iff_toInt_lt, nI_toInt (by omega), show (-1 : Int32).toInt = -1 from rfl] at w
            omega)]
          decide
      · refine ⟨m + 1, hm, ?_, Or.inr ⟨m, hm, e, rfl⟩⟩
        rw [e]
        cases N with
        | zero => omega
        | succ N =>
          rw [nI_pred, nI_pred, if_neg (nI_nlt (by omega) (by omega))]
    obtain ⟨M, hM1, hM2, hM3⟩ := hst
  · dsimp only
    rw [hM2]
    exact ms_i (by omega) (by omega)
  · refine ⟨M, hM1, hM2, MK_t h1.1 h2.1, fun k => ?_⟩
    have hmk : ∀ n, n < N → (¬ w2.2.1 115 n = 0 ↔ x = nI n) := fun n hn => by
      rw [h2.2 n hn, h1.2 n hn]
      exact ⟨fun w => w.elim (fun y => absurd rfl y) id, Or.inr⟩
    rcases hM3 with ⟨e, e0⟩ | ⟨m, hm, e, e0⟩
    · constructor
      · rintro ⟨n, hn, e1, -⟩
        rw [e] at e1
        exact absurd e1.symm (nI_m1 (by omega))
      · rintro (⟨n, a1, a2, a3, a4⟩ | ⟨n, a1, -⟩)
        · have := (hmk n a2).mp a3
          rw [e] at this
          exact absurd this.symm (nI_m1 (by omega))
        · omega
    · constructor
      · rintro ⟨n, hn, e1, hr⟩
        rw [e] at e1
        have en := nI_inj (by omega) (by omega) e1
        rw [← en] at hr
        exact Or.inr ⟨m, by omega, (hmk m hm).mpr e, hr⟩
      · rintro (⟨n, a1, a2, a3, a4⟩ | ⟨n, a1, a2, a3⟩)
        · have e1 := (hmk n a2).mp a3
          rw [e] at e1
          have := nI_inj (by omega) (by omega) e1
          omega
        · exact ⟨n, by omega, (hmk n (by omega)).mp a2, a3⟩
/-- what is marked above an entry: what rests on it -/
theorem c_markAbove {e0 : Nat} (hN : rF u q 11 = nI N) (h8 : N ≤ 3800) (hq : 115 < q) (he : e0 < 800) (hab : ∀ n, n < N → isPt n (u.2.1 (q + 9) n) ∧ isPt n (u.2.1 (q + 10) n)) (hF : 10000 < F) : Tt (g_X6_markAllAbove F q (nI e0) 115 3800 u) (fun w => MkO u w ∧ ∀ n, n < N → (¬ w.2.1 115 n = 0 ↔ RsU u q N n (3008 + e0))) := by
  unfold g_X6_markAllAbove
  refine tt_ob (c_unmark hN h8 hF) (fun w1 h1 => tt_b (tt_lp (I := fun s => ∃ m, m ≤ N ∧ s.1 = nI m ∧ MkO u s.2 ∧ (∀ n, n < m → (¬ s.2.2.1 115 n = 0 ↔ RsU u q N n (3008 + e0))) ∧ ∀ n, m ≤ n → n < N → s.2.2.1 115 n = 0) (m := fun s => ((N : Int) - s.1.toInt).toNat) (P := fun w => MkO u w ∧ ∀ n, n < N → (¬ w.2.1 115 n = 0 ↔ RsU u q N n (3008 + e0))) ?_ F _ ?_ ?_) (fun _ z => z))
  · rintro ⟨a, v⟩ ⟨m, g1, g2, g3, g4, g5⟩
    dsimp only at g2 g3 g4 g5 ⊢
    subst g2
    unfold g_X6_markAllAbove_l7
    rw [MK_N g3 hN]
    by_cases z : m < N
    · obtain ⟨pa, pb⟩ := hab m z
      have ev : ∀ j, j ≠ 115 → v.2.1 j = u.2.1 j := g3.2.2
      have hi : inb (nI m) 3800 := inb_nI (by omega) (by decide)
      have hat := RsU_at (u := u) (q := q) (N := N) (n := m) (k := 3008 + e0) z (by omega) pa pb
      have hown : ownK u q m (3008 + e0) ↔ u.2.1 (q + 8) m = nI e0 := by
        constructor
        · rintro (⟨w, -⟩ | ⟨j, j1, j2, j3⟩)
          · omega
          · rw [j2, show j = e0 by omega]
        · intro w
          exact Or.inr ⟨e0, he, w, rfl⟩
      have hin : ∀ y, isPt m y → ((∃ n, n < N ∧ y = nI n ∧ ¬ v.2.1 115 n = 0) ↔ inU u q N y (3008 + e0)) := fun y hy => by
        have hlt : ∀ n, n < N → y = nI n → n < m := fun n hn e => by
          rcases hy with w | ⟨i, i1, w⟩
          · rw [w] at e
            exact absurd e.symm (nI_m1 (by omega))
          · rw [w] at e
            have := nI_inj (by omega) (by omega) e
            omega
        constructor
        · rintro ⟨n, n1, n2, n3⟩
          exact ⟨n, n1, n2, (g4 n (hlt n n1 n2)).mp n3⟩
        · rintro ⟨n, n1, n2, n3⟩
          exact ⟨n, n1, n2, (g4 n (hlt n n1 n2)).mpr n3⟩
      have j64 : ¬ RsU u q N m (3008 + e0) → Tt (g_X6_markAllAbove_j64 F q 115 3800 (nI e0) (nI m) v) (PS (fun s' : Int32 × rg_U => (∃ m, m ≤ N ∧ s'.1 = nI m ∧ MkO u s'.2 ∧ (∀ n, n < m → (¬ s'.2.2.1 115 n = 0 ↔ RsU u q N n (3008 + e0))) ∧ ∀ n, m ≤ n → n < N → s'.2.2.1 115 n = 0) ∧ ((N : Int) - s'.1.toInt).toNat < ((N : Int) - (nI m).toInt).toNat) (fun w : rg_U => MkO u w ∧ ∀ n, n < N → (¬ w.2.1 115 n = 0 ↔ RsU u q N n (3008 + e0)))) := fun hno => by
        unfold g_X6_markAllAbove_j64
        refine tt_l ⟨⟨m + 1, by omega, by show nI m + 1 = nI (m + 1); rw [nI_1], g3, fun n hn => ?_, fun n n1 n2 => g5 n (by omega) n2⟩, ms_u z (by omega)⟩
        rcases Nat.lt_or_ge n m with y | y
        · exact g4 n y
        · rw [show n = m by omega]
          exact ⟨fun w => absurd (g5 m (Nat.le_refl m) z) w, fun w => absurd w hno⟩
      have j58 : RsU u q N m (3008 + e0) → Tt (g_X6_markAllAbove_j58 F q 115 3800 (nI e0) (nI m) v) (PS (fun s' : Int32 × rg_U => (∃ m, m ≤ N ∧ s'.1 = nI m ∧ MkO u s'.2 ∧ (∀ n, n < m → (¬ s'.2.2.1 115 n = 0 ↔ RsU u q N n (3008 + e0))) ∧ ∀ n, m ≤ n → n < N → s'.2.2.1 115 n = 0) ∧ ((N : Int) - s'.1.toInt).toNat < ((N : Int) - (nI m).toInt).toNat) (fun w : rg_U => MkO u w ∧ ∀ n, n < N → (¬ w.2.1 115 n = 0 ↔ RsU u q N n (3008 + e0)))) := fun hyes => by
        unfold g_X6_markAllAbove_j58 g_X6_markAllAbove_j64
        refine tt_ob (c_mark (MK_N g3 hN) h8 (Or.inr ⟨m, z, rfl⟩)) (fun v1 k1 => ?_)
        refine tt_l ⟨⟨m + 1, by omega, by show nI m + 1 = nI (m + 1); rw [nI_1], MK_t g3 k1.1, fun n hn => ?_, fun n n1 n2 => ?_⟩, ms_u z (by omega)⟩
        · show ¬ v1.2.1 115 n = 0 ↔ _
          rw [k1.2 n (by omega)]
          rcases Nat.lt_or_ge n m with y | y
          · rw [← g4 n y]
            exact ⟨fun w => w.elim id (fun e => absurd (nI_inj (by omega) (by omega) e) (by omega)), Or.inl⟩
          · rw [show n = m by omega]
            exact ⟨fun _ => hyes, fun _ => Or.inr rfl⟩
        · show v1.2.1 115 n = 0
          refine Classical.byContradiction fun w => ?_
          rcases (k1.2 n n2).mp w with y | y
          · exact y (g5 n (by omega) n2)
          · have := nI_inj (by omega) (by omega) y
            omega
      rw [if_neg (nI_ge z (by omega)), if_neg (show ¬ (3800 : Int32) ≤ nI m from nI_ge (a := m) (b := 3800) (by omega) (by decide)), ck_t hi, rA_nI (by omega), ev (q + 8) (by omega)]
      by_cases c1 : u.2.1 (q + 8) m = nI e0
      · rw [if_pos c1]
        exact j58 (hat.mpr (Or.inl (hown.mpr c1)))
      · rw [if_neg c1, ck_t hi, rA_nI (by omega), ev (q + 9) (by omega)]
        refine tt_ob (c_isM h8 (isPt_le pa (by omega))) (fun r hr => ?_)
        by_cases c2 : r = 0
        · rw [if_pos c2, ck_t hi, rA_nI (by omega), ev (q + 10) (by omega)]
          refine tt_ob (c_isM h8 (isPt_le pb (by omega))) (fun r' hr' => ?_)
          by_cases c3 : r' = 0
          · rw [if_pos c3]
            refine j64 (fun w => ?_)
            rcases hat.mp w with w | w | w
            · exact c1 (hown.mp w)
            · exact (hr.mpr ((hin _ pa).mpr w)) c2
            · exact (hr'.mpr ((hin _ pb).mpr w)) c3
          · rw [if_neg c3]
            exact j58 (hat.mpr (Or.inr (Or.inr ((hin _ pb).mp (hr'.mp c3)))))
        · rw [if_neg c2]
          exact j58 (hat.mpr (Or.inr (Or.inl ((hin _ pa).mp (hr.mp c2)))))
    · rw [if_pos (nI_le (by omega) (by omega))]
      exact tt_r ⟨g3, fun n hn => g4 n (by omega)⟩
  · exact ms_0 (by omega)
  · exact ⟨0, Nat.zero_le _, rfl, h1.1, fun n hn => absurd hn (Nat.not_lt_zero n), fun n _ hn => h1.2 n hn⟩
end ZC
end W_93
