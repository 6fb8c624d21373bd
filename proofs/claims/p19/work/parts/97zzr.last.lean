/-! the class and the reference: changed, last, watched -/
theorem cSc_0 {u : rg_U} {o : Nat} : cSc u o 0 = u := by
  have e : ∀ (w : rg_U) (j s : Nat), sF w j s (rF w j s) = w := fun w j s => by
    unfold sF rg_F rF
    have : upd w.1 (100 * j + s) (w.1 (100 * j + s)) = w.1 := by
      funext k
      by_cases q : k = 100 * j + s
      · rw [q, pk_us]
      · rw [pk_un q]
    rw [this]
  show sF (sF u o 12 (rF u o 12 + 0)) 0 13 (rF u 0 13 + 0) = u
  rw [Int32.add_zero, Int32.add_zero, e, e]
theorem cSc_add {u : rg_U} {o : Nat} {x y : Int32} (ho : 116 ≤ o) : cSc (cSc u o x) o y = cSc u o (x + y) := by
  have e1 : rF (cSc u o x) o 12 = rF u o 12 + x := by
    show (sF (sF u o 12 (rF u o 12 + x)) 0 13 (rF u 0 13 + x)).1 (100 * o + 12) = _
    rw [sF_n (by omega)]
    exact sF_y
  have e2 : rF (cSc u o x) 0 13 = rF u 0 13 + x := sF_y
  show sF (sF (cSc u o x) o 12 (rF (cSc u o x) o 12 + y)) 0 13 (rF (cSc u o x) 0 13 + y) = _
  rw [e1, e2]
  have hf : ∀ k, (sF (sF (cSc u o x) o 12 (rF u o 12 + x + y)) 0 13 (rF u 0 13 + x + y)).1 k = (cSc u o (x + y)).1 k := fun k => by
    show upd (upd (upd (upd u.1 (100 * o + 12) _) (100 * 0 + 13) _) (100 * o + 12) _) (100 * 0 + 13) _ k = upd (upd u.1 (100 * o + 12) _) (100 * 0 + 13) _ k
    by_cases q : k = 100 * 0 + 13
    · rw [q, pk_us, pk_us, Int32.add_assoc]
    · rw [pk_un q, pk_un q]
      by_cases q2 : k = 100 * o + 12
      · rw [q2, pk_us, pk_us, Int32.add_assoc]
      · rw [pk_un q2, pk_un q2, pk_un q, pk_un q2]
  exact Prod.ext (funext hf) rfl
section YI
variable {pB : Prop} {F K W o r t p q T N : Nat} {u uc um uc' um' : rg_U} {x y z v : Int32}
theorem RR_x (hR : RR pB uc um o r) (ho : 116 ≤ o) (x : Int32) : RR pB (cSc uc o x) (cS um r x) o r := RR_cS hR (by omega)
theorem runOK_cS {x : Int32} (h : runOK um r) : runOK (cS um r x) r := runOK_c (fun j _ h25 => by
  show va_up um.2.1 25 _ j = _
  exact pm_up_n h25) h
theorem c_replayX {k : Nat} (hR : RR pB uc um o r) (hro : runOK um r) (ht : t ≤ Tr um r) (ho : 116 ≤ o) (hF : 10000 < F) : g_X9_replay F o (nI t) (cSc uc o (nI k)) = some (cSc uc o (nI (k + costM um r t))) := by
  have h := c_replay (F := F) (t := t) (RR_x hR ho (nI k)) (runOK_cS hro) ht ho hF
  have e : costM (cS um r (nI k)) r t = costM um r t := rfl
  rw [e] at h
  rw [h]
  show some (cSc (cSc uc o (nI k)) o (nI (costM um r t))) = _
  rw [cSc_add ho, nI_add]
/-- a place at a time, whatever is counted -/
theorem c_readX {k : Nat} (hR : RR pB uc um o r) (ht : t ≤ Tr um r) (hp : p < 40) (hT3 : Tr um r ≤ 3000) (ho : 116 ≤ o) (hF : 10000 < F) : ∃ n, g_X6_putBy F (o + 12) (nI t) (nI p) (cSc uc o (nI k)) = some n ∧ g_X6_changesOf F (o + 12) n (cSc uc o (nI k)) = some ((rpm um r t).1 (80 + p)) := by
  obtain ⟨n, a1, -, -, a2, -⟩ := c_read (F := F) (p := p) (RR_x hR ho (nI k)) ht hp hT3 hF
  exact ⟨n, a1, by rw [a2, rpm_cS]⟩
/-! changed -/
theorem c_chl {k a n : Nat} (hR : RR pB uc um o r) (ht : t + 1 ≤ Tr um r) (hT3 : Tr um r ≤ 3000) (ho : 116 ≤ o) (hF : 10000 < F) (ha : g_X9_firstPlaceOf y = nI a) (hn : g_X9_placesOf y = nI n) (han : a + n ≤ 40) : lp (fun (s : (Int32 × Int32)) => g_X9_changed_l60 F o (nI t) y (cSc uc o (nI k)) s.1 s.2) F ((0 : Int32), (0 : Int32)) = some (chB (rpm um r t).1 (rpm um r (t + 1)).1 a n) := by
  have h := lp_up (body := fun (s : Int32 × Int32) => g_X9_changed_l60 F o (nI t) y (cSc uc o (nI k)) s.1 s.2) (fun i => (chB (rpm um r t).1 (rpm um r (t + 1)).1 a i, nI i)) n (chB (rpm um r t).1 (rpm um r (t + 1)).1 a n) (fun i hi => by
    show g_X9_changed_l60 F o (nI t) y (cSc uc o (nI k)) (chB (rpm um r t).1 (rpm um r (t + 1)).1 a i) (nI i) = _
    obtain ⟨n1, b1, b2⟩ := c_readX (F := F) (k := k) (t := t) (p := a + i) hR (by omega) (by omega) hT3 ho hF
    obtain ⟨n2, b3, b4⟩ := c_readX (F := F) (k := k) (t := t + 1) (p := a + i) hR ht (by omega) hT3 ho hF
    unfold g_X9_changed_l60 g_X9_changed_j134
    rw [hn, if_neg (nI_ge hi (by omega)), ha, nI_add, b1, ob_i, b2, ob_i, nI_1, b3, ob_i, b4, ob_i, nI_1]
    show _ = some (Sum.inl (chB (rpm um r t).1 (rpm um r (t + 1)).1 a i ||| (if (rpm um r (t + 1)).1 (80 + (a + i)) = (rpm um r t).1 (80 + (a + i)) then 0 else dx_shl 1 (nI i)), nI (i + 1)))
    by_cases w : (rpm um r t).1 (80 + (a + i)) = (rpm um r (t + 1)).1 (80 + (a + i))
    · rw [if_pos w, if_pos w.symm, Int32.or_zero]
    · rw [if_neg w, if_neg (fun w2 => w w2.symm)]) (by
    show g_X9_changed_l60 F o (nI t) y (cSc uc o (nI k)) _ (nI n) = _
    unfold g_X9_changed_l60
    rw [hn, if_pos (nI_le (Nat.le_refl _) (by omega))]) F 0 (Nat.zero_le _) (by omega)
  exact h
theorem sr_changed (hF : 10000 < F) : SB pB (g_X9_changed F x y) (g_X10_changed F x y) := fun uc um h => by
  obtain ⟨K, W, r1, -⟩ := id h
  have h0 := Rel_zero h
  have m0 : okM (sF um 0 35 0) K W := okM_34 (by omega) r1
  have eA : aR (sF um 0 35 0) = aR um := rfl
  unfold g_X9_changed
  rw [lt1_i]
  rcases Rel_ask (F := F) h0 m0 with ⟨e5, en⟩ | ⟨ea, e5, h5, en, hR⟩
  · rw [en, ob_i, om_0]
    rcases m_changed (F := F) (x := x) (y := y) r1 hF with ⟨-, q, -⟩ | ⟨t, u', -, w, -⟩
    · exact ⟨_, _, rfl, q, rfl, h0⟩
    · rw [show um.2.1 5 (aR um) = 0 from e5] at w
      exact absurd w (by decide)
  · have hro := m0.1.2.2.2.2.1 _ ea
    have hT3 := hro.2.2.2.2.2.2.1.1.2.2.2.1
    rw [eA] at *
    have hT3' : Tr um (aR um) ≤ 3000 := hT3
    obtain ⟨N, hS⟩ := hR.2.2.2.2.2.2
    have h9 : rF (sF uc 0 13 0) (oR (aR um)) 9 = nI (Tr um (aR um)) := hS.1
    have e21 : um.2.1 21 (aR um) = nI (Tr um (aR um)) := hro.2.1
    rw [en, ob_i, om_i, ck_t (oR_rn h5), h9]
    have hpw : g_X9_isPlacesWhat y = 0 ↔ g_X10_isIn y 0 1 = 0 := by
      unfold g_X9_isPlacesWhat
      rw [← cl_flag]
    have bad : ¬ ((∃ t, t < Tr um (aR um) ∧ x = nI t) ∧ ¬ g_X10_isIn y 0 1 = 0) → ∃ zm, g_X10_changed F x y um = some zm ∧ (-1000001 : Int32) = zm.1 ∧ RelC pB (sF uc 0 13 0) zm.2 := fun hb => by
      rcases m_changed (F := F) (x := x) (y := y) r1 hF with ⟨-, q, -⟩ | ⟨t, u', -, w1, w2, w3, w4, -⟩
      · exact ⟨_, q, rfl, h0⟩
      · exact absurd ⟨⟨t, w2, w3⟩, w4⟩ hb
    by_cases q1 : x < 0
    · rw [if_pos q1]
      obtain ⟨zm, b1, b2, b3⟩ := bad (fun w => by
        obtain ⟨⟨t, ht, e⟩, -⟩ := w
        rw [e] at q1
        exact nI_pos (by omega) q1)
      exact ⟨_, zm, rfl, b1, b2, b3⟩
    rw [if_neg q1]
    obtain ⟨t, ht31, rfl⟩ := nI_of q1
    by_cases q2 : t < Tr um (aR um)
    · rw [if_neg (nI_ge q2 (by omega))]
      by_cases q3 : g_X10_isIn y 0 1 = 0
      · rw [if_pos (hpw.mpr q3)]
        obtain ⟨zm, b1, b2, b3⟩ := bad (fun w => w.2 q3)
        exact ⟨_, zm, rfl, b1, b2, b3⟩
      · rw [if_neg (fun w => q3 (hpw.mp w))]
        rcases m_changed (F := F) (x := nI t) (y := y) r1 hF with ⟨w, -⟩ | ⟨t2, u', w0, w1, w2, w3, w4, q, hok, hce⟩
        · refine absurd ⟨⟨e5, t, by omega, rfl⟩, fun w2 => ?_, q3⟩ w
          rw [e21] at w2
          have := nI_inj ht31 (by omega) w2
          omega
        · have et : t2 = t := nI_inj (by omega) ht31 w3.symm
          subst et
          have ho := oR_ge (r := aR um)
          have hr1 := c_replayX (F := F) (k := 0) (t := t2) hR hro (show t2 ≤ Tr um (aR um) by omega) ho hF
          rw [show nI 0 = (0 : Int32) from rfl, cSc_0, Nat.zero_add] at hr1
          have hr2 := c_replayX (F := F) (k := costM (sF um 0 35 0) (aR um) t2) (t := t2 + 1) hR hro (show t2 + 1 ≤ Tr um (aR um) by omega) ho hF
          rw [hr1, ob_i, nI_1, hr2, ob_i]
          have eR : ∀ s, rpm (sF um 0 35 0) (aR um) s = rpm um (aR um) s := fun _ => rfl
          have ec : ∀ s, costM (sF um 0 35 0) (aR um) s = costM um (aR um) s := fun _ => rfl
          have hRel : RelC pB (cSc (sF uc 0 13 0) (oR (aR um)) (nI (costM um (aR um) t2 + costM um (aR um) (t2 + 1)))) u' := Rel_e (Rel_cS h0 m0 ea) ⟨core_cS m0.1, simM_cS m0.2⟩ hce hok
          rw [ec, ec]
          by_cases y0 : y = 0
          · have hl := c_chl (F := F) (y := y) (k := costM um (aR um) t2 + costM um (aR um) (t2 + 1)) (a := 0) (n := 8) hR (show t2 + 1 ≤ Tr um (aR um) by omega) hT3' ho hF (by unfold g_X9_firstPlaceOf; rw [if_pos y0]; rfl) (by unfold g_X9_placesOf; rw [if_pos y0]; rfl) (by omega)
            rw [hl, ob_i]
            rw [if_pos y0] at q
            exact ⟨_, _, rfl, q, rfl, hRel⟩
          · have hl := c_chl (F := F) (y := y) (k := costM um (aR um) t2 + costM um (aR um) (t2 + 1)) (a := 8) (n := 32) hR (show t2 + 1 ≤ Tr um (aR um) by omega) hT3' ho hF (by unfold g_X9_firstPlaceOf; rw [if_neg y0]; rfl) (by unfold g_X9_placesOf; rw [if_neg y0]; rfl) (by omega)
            rw [hl, ob_i]
            rw [if_neg y0] at q
            exact ⟨_, _, rfl, q, rfl, hRel⟩
    · rw [if_pos (nI_le (by omega) ht31)]
      obtain ⟨zm, b1, b2, b3⟩ := bad (fun w => by
        obtain ⟨⟨t', ht', e⟩, -⟩ := w
        have := nI_inj ht31 (by omega) e
        omega)
      exact ⟨_, zm, rfl, b1, b2, b3⟩
/-! how often a place has changed, by the puts -/
theorem cnt_seq (h : PI u q T N) (hp : p < 40) : ∃ c : Nat → Nat, c 0 = 0 ∧ (∀ k, k ≤ N → vS (u.2.1 (q + 5)) 0 (lat (u.2.1 (q + 2)) p k) = nI (c k)) ∧ (∀ k, k < N → c k ≤ c (k + 1)) ∧ (∀ k, c k ≤ k) := by
  obtain ⟨hN, h8, hT, hm, hl, hx⟩ := h
  let c : Nat → Nat := fun n => Nat.rec (motive := fun _ => Nat) 0 (fun k ck => ck + (if u.2.1 (q + 2) k = nI p ∧ ¬ (vS (u.2.1 (q + 3)) 0 (u.2.1 (q + 6) k) = u.2.1 (q + 3) k ∧ vS (u.2.1 (q + 4)) 0 (u.2.1 (q + 6) k) = u.2.1 (q + 4) k) then 1 else 0)) n
  have cs : ∀ k, c (k + 1) = c k + (if u.2.1 (q + 2) k = nI p ∧ ¬ (vS (u.2.1 (q + 3)) 0 (u.2.1 (q + 6) k) = u.2.1 (q + 3) k ∧ vS (u.2.1 (q + 4)) 0 (u.2.1 (q + 6) k) = u.2.1 (q + 4) k) then 1 else 0) := fun _ => rfl
  refine ⟨c, rfl, fun k => ?_, fun k _ => ?_, fun k => ?_⟩
  · induction k with
    | zero => intro _; rfl
    | succ k ih =>
      intro hk
      have ih := ih (by omega)
      rw [cs]
      by_cases w : u.2.1 (q + 2) k = nI p
      · obtain ⟨s, p', b1, b2, b3, b4, b5, b6⟩ := hx k (by omega)
        have ep : p' = p := nI_inj (by omega) (by omega) (b4.symm.trans w)
        subst ep
        rw [lat_y w, vS_n (by omega), b6]
        by_cases w2 : vS (u.2.1 (q + 3)) 0 (u.2.1 (q + 6) k) = u.2.1 (q + 3) k ∧ vS (u.2.1 (q + 4)) 0 (u.2.1 (q + 6) k) = u.2.1 (q + 4) k
        · rw [if_pos w2, if_neg (fun w3 => w3.2 w2), b5, ih, Int32.add_zero, Nat.add_zero]
        · rw [if_neg w2, if_pos ⟨w, w2⟩, b5, ih, nI_1]
      · rw [lat_n w, if_neg (fun w3 => w w3.1), Nat.add_zero]
        exact ih
  · rw [cs]
    exact Nat.le_add_right _ _
  · induction k with
    | zero => exact Nat.le_refl _
    | succ k ih =>
      rw [cs]
      split <;> omega
theorem seq_mono {c : Nat → Nat} (h : ∀ k, k < N → c k ≤ c (k + 1)) : ∀ b, b ≤ N → ∀ a, a ≤ b → c a ≤ c b
  | 0, _, a, ha => by rw [show a = 0 by omega]; exact Nat.le_refl _
  | b + 1, hb, a, ha => by
    rcases Nat.lt_or_ge b a with w | w
    · rw [show a = b + 1 by omega]; exact Nat.le_refl _
    · exact Nat.le_trans (seq_mono h b (by omega) a w) (h b (by omega))
/-- since when a place has as many changes as at t -/
theorem c_changedSince {a0 : Nat} (h : PI u q T N) (hp : p < 40) (ha : lat (u.2.1 (q + 2)) p (cP (u.2.1 (q + 1)) t N) = nI a0) (ha0 : a0 < N) (hv : ¬ vS (u.2.1 (q + 5)) 0 (nI a0) = 0) (hF : 10000 < F) : ∃ s, s ≤ T ∧ g_X6_changedSince F q (nI a0) u = some (nI s) ∧ ∀ m, m ≤ t → (vS (u.2.1 (q + 5)) 0 (lat (u.2.1 (q + 2)) p (cP (u.2.1 (q + 1)) m N)) = vS (u.2.1 (q + 5)) 0 (nI a0) ↔ s ≤ m) := by
  obtain ⟨c, c0, c1, c2, c3⟩ := cnt_seq h hp
  obtain ⟨hN, h8, hT, hm, hl, hx⟩ := id h
  have hc := cP_le (pt := u.2.1 (q + 1)) (t := t) N
  have vt : vS (u.2.1 (q + 5)) 0 (nI a0) = nI (c (cP (u.2.1 (q + 1)) t N)) := by rw [← ha, c1 _ hc]
  obtain ⟨l1, l2, l3⟩ := lat_some (cP (u.2.1 (q + 1)) t N) (by omega) ha (by omega)
  have hch : ∀ i, i < N → u.2.1 (q + 2) i = nI p → u.2.1 (q + 5) i = nI (c (i + 1)) := fun i hi e => by
    rw [← c1 (i + 1) (by omega), lat_y e, vS_n (by omega)]
  have va0 : c (a0 + 1) = c (cP (u.2.1 (q + 1)) t N) := by
    have e1 := c1 (a0 + 1) (by omega)
    rw [lat_y l2, vt] at e1
    exact (nI_inj (by have := c3 (cP (u.2.1 (q + 1)) t N); omega) (by have := c3 (a0 + 1); omega) e1).symm
  have key : Tt (g_X6_changedSince F q (nI a0) u) (fun x => ∃ a, a ≤ a0 ∧ u.2.1 (q + 2) a = nI p ∧ c a < c (a0 + 1) ∧ c (a + 1) = c (a0 + 1) ∧ x = u.2.1 (q + 1) a) := by
    unfold g_X6_changedSince
    rw [hN]
    have fin : ∀ a, a < N → Tt (g_X6_changedSince_j55 F q (nI a) u) (fun x => x = u.2.1 (q + 1) a) := fun a haN => by
      unfold g_X6_changedSince_j55
      rw [x6_time hN h8 (Or.inr ⟨a, haN, rfl⟩), ob_i, vS_n (by omega)]
      exact tt_s rfl
    refine tt_ob (tt_lp (I := fun s => ∃ a k : Nat, a ≤ a0 ∧ a < k ∧ k ≤ N ∧ s.1 = nI a ∧ s.2 = nI k ∧ u.2.1 (q + 2) a = nI p ∧ c (a + 1) = c (a0 + 1)) (m := fun s => s.2.toInt.toNat) (P := fun w => ∃ a, a ≤ a0 ∧ u.2.1 (q + 2) a = nI p ∧ c a < c (a0 + 1) ∧ c (a + 1) = c (a0 + 1) ∧ (w = Sum.inl (nI a) ∨ w = Sum.inr (nI a))) ?_ F _ ?_ ?_) (fun w hw => ?_)
    · rintro ⟨s1, s2⟩ ⟨a, k, b1, b2, b3, b4, b5, b6, b7⟩
      dsimp only at b4 b5 ⊢
      subst b4 b5
      obtain ⟨s, p', d1, d2, d3, d4, d5, -⟩ := hx a (by omega)
      have ep : p' = p := nI_inj (by omega) (by omega) (d4.symm.trans b6)
      subst ep
      unfold g_X6_changedSince_l7
      rw [if_neg (nI_nle (by omega) (by omega)), x6_ahead hN h8 (Or.inr ⟨a, by omega, rfl⟩), ob_i, vS_n (by omega), d5]
      rcases lat_pt (pp := u.2.1 (q + 2)) (p := p') a with e | ⟨a', ha', e⟩
      · rw [e, x6_has_n, ob_i, if_pos rfl]
        refine tt_r ⟨a, b1, b6, ?_, b7, Or.inr rfl⟩
        have e1 := c1 a (by omega)
        rw [e, vS_0] at e1
        have e0 : c a = 0 := (nI_inj (b := c a) (a := 0) (by omega) (by have := c3 a; omega) e1).symm
        rcases Nat.eq_zero_or_pos (c (a0 + 1)) with z | z
        · exfalso
          apply hv
          rw [vt, ← va0, z]
          rfl
        · omega
      · obtain ⟨f1, f2, f3⟩ := lat_some a (by omega) e (by omega)
        rw [e, x6_has_y hN h8 (by omega), ob_i, if_neg (by decide), ob_i, x6_changes hN h8 (Or.inr ⟨a', by omega, rfl⟩), ob_i, vS_n (by omega), x6_changes hN h8 (Or.inr ⟨a0, ha0, rfl⟩), ob_i, vS_n (by omega), hch a' (by omega) f2, hch a0 ha0 l2]
        have ca : c a = c (a' + 1) := by
          have e1 := c1 a (by omega)
          have e2 := c1 (a' + 1) (by omega)
          rw [e, vS_n (by omega)] at e1
          rw [lat_y f2, vS_n (by omega)] at e2
          exact nI_inj (by have := c3 a; omega) (by have := c3 (a' + 1); omega) (e1.symm.trans e2)
        by_cases w : c (a' + 1) = c (a0 + 1)
        · rw [if_pos (by rw [w]), ob_i]
          refine tt_l ⟨⟨a', k - 1, by omega, by omega, by omega, rfl, ?_, f2, w⟩, ms_d0 (by omega) (by omega)⟩
          show nI k + -1 = nI (k - 1)
          have := nI_dec (k := k - 1)
          rwa [show k - 1 + 1 = k by omega] at this
        · rw [if_neg (fun w2 => w (nI_inj (by have := c3 (a' + 1); omega) (by have := c3 (a0 + 1); omega) w2))]
          have := c2 a (by omega)
          exact tt_r ⟨a, b1, b6, by omega, b7, Or.inl rfl⟩
    · exact ms_n (by omega) (by omega)
    · exact ⟨a0, N, Nat.le_refl _, ha0, Nat.le_refl _, rfl, rfl, l2, rfl⟩
    · obtain ⟨a, d1, d2, d3, d4, d5⟩ := hw
      rcases d5 with rfl | rfl
      · exact tt_w (fin a (by omega)) (fun x hx => ⟨a, d1, d2, d3, d4, hx⟩)
      · exact tt_w (fin a (by omega)) (fun x hx => ⟨a, d1, d2, d3, d4, hx⟩)
  obtain ⟨x, e, a, d1, d2, d3, d4, d5⟩ := key
  obtain ⟨s, p', g1, g2, g3, -⟩ := hx a (by omega)
  refine ⟨s, g1, by rw [e, d5, g3], fun m hm' => ?_⟩
  have hcm := cP_le (pt := u.2.1 (q + 1)) (t := m) N
  have hmt := cP_mono (pt := u.2.1 (q + 1)) hm' N
  rw [c1 _ hcm, vt, ← va0]
  have i1 : a < cP (u.2.1 (q + 1)) m N ↔ s ≤ m := by
    rw [cP_iff N hm a (by omega), g3, tnn (by omega)]
  rw [← i1]
  constructor
  · intro w
    have w2 := nI_inj (by have := c3 (cP (u.2.1 (q + 1)) m N); omega) (by have := c3 (a0 + 1); omega) w
    rcases Nat.lt_or_ge a (cP (u.2.1 (q + 1)) m N) with y | y
    · exact y
    · have := seq_mono c2 a (by omega) _ y
      omega
  · intro w
    have x1 := seq_mono c2 (cP (u.2.1 (q + 1)) m N) hcm (a + 1) (by omega)
    have x2 := seq_mono c2 (cP (u.2.1 (q + 1)) t N) hc (cP (u.2.1 (q + 1)) m N) hmt
    rw [show c (cP (u.2.1 (q + 1)) m N) = c (a0 + 1) by omega]
end YI
