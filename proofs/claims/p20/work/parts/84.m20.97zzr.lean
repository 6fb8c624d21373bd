section W_85
-- 97zzr.last
/-! the class and the reference: changed, last, watched -/
theorem cSc_0 {u : rg_U} {o : Nat} : cSc u o 0 = u := by
  have e : ∀ (w : rg_U) (j s : Nat), sF w j s (rF w j s) = w := fun w j s => by
    unfold sF rg_F rF
    have : upd w.1 (100 * j + s) (w.1 (100 * j + s)) = w.1 := by
      funext k
      by_cases q : k = 100 * j + s
      · rw [q, pk_us]
      · rw [pk_un q]
    rw [this]
  show sF (sF u o 12 (rF u o 12 + 0)) 0 13 (rF u 0 13 + 0) = u
  rw [Int32.add_zero, Int32.add_zero, e, e]
theorem cSc_add {u : rg_U} {o : Nat} {x y : Int32} (ho : 116 ≤ o) : cSc (cSc u o x) o y = cSc u o (x + y) := by
  have e1 : rF (cSc u o x) o 12 = rF u o 12 + x := by
    show (sF (sF u o 12 (rF u o 12 + x)) 0 13 (rF u 0 13 + x)).1 (100 * o + 12) = _
    rw [sF_n (by omega)]
    exact sF_y
  have e2 : rF (cSc u o x) 0 13 = rF u 0 13 + x := sF_y
  show sF (sF (cSc u o x) o 12 (rF (cSc u o x) o 12 + y)) 0 13 (rF (cSc u o x) 0 13 + y) = _
  rw [e1, e2]
  have hf : ∀ k, (sF (sF (cSc u o x) o 12 (rF u o 12 + x + y)) 0 13 (rF u 0 13 + x + y)).1 k = (cSc u o (x + y)).1 k := fun k => by
    show upd (upd (upd (upd u.1 (100 * o + 12) _) (100 * 0 + 13) _) (100 * o + 12) _) (100 * 0 + 13) _ k = upd (upd u.1 (100 * o + 12) _) (100 * 0 + 13) _ k
    by_cases q : k = 100 * 0 + 13
    · rw [q, pk_us, pk_us, Int32.add_assoc]
    · rw [pk_un q, pk_un q]
      by_cases q2 : k = 100 * o + 12
      · rw [q2, pk_us, pk_us, Int32.add_assoc]
      · rw [pk_un q2, pk_un q2, pk_un q, pk_un q2]
  exact Prod.ext (funext hf) rfl
section YI
variable {pB : Prop} {F K W o r t p q T N : Nat} {u uc um uc' um' : rg_U} {x y z v : Int32}
theorem RR_x (hR : RR pB uc um o r) (ho : 116 ≤ o) (x : Int32) : RR pB (cSc uc o x) (cS um r x) o r := RR_cS hR (by omega)
theorem runOK_cS {x : Int32} (h : runOK um r) : runOK (cS um r x) r := runOK_c (fun j _ h25 => by
  show va_up um.2.1 25 _ j = _
  exact pm_up_n h25) h
theorem c_replayX {k : Nat} (hR : RR pB uc um o r) (hro : runOK um r) (ht : t ≤ Tr um r) (ho : 116 ≤ o) (hF : 10000 < F) : g_X9_replay F o (nI t) (cSc uc o (nI k)) = some (cSc uc o (nI (k + costM um r t))) := by
  have h := c_replay (F := F) (t := t) (RR_x hR ho (nI k)) (runOK_cS hro) ht ho hF
  have e : costM (cS um r (nI k)) r t = costM um r t := rfl
  rw [e] at h
  rw [h]
  show some (cSc (cSc uc o (nI k)) o (nI (costM um r t))) = _
  rw [cSc_add ho, nI_add]
/-- a place at a time, whatever is counted -/
theorem c_readX {k : Nat} (hR : RR pB uc um o r) (ht : t ≤ Tr um r) (hp : p < 40) (hT3 : Tr um r ≤ 3000) (ho : 116 ≤ o) (hF : 10000 < F) : ∃ n, g_X6_putBy F (o + 12) (nI t) (nI p) (cSc uc o (nI k)) = some n ∧ g_X6_changesOf F (o + 12) n (cSc uc o (nI k)) = some ((rpm um r t).1 (80 + p)) := by
  obtain ⟨n, a1, -, -, a2, -⟩ := c_read (F := F) (p := p) (RR_x hR ho (nI k)) ht hp hT3 hF
  exact ⟨n, a1, by rw [a2, rpm_cS]⟩
/-! changed -/
theorem c_chl {k a n : Nat} (hR : RR pB uc um o r) (ht : t + 1 ≤ Tr um r) (hT3 : Tr um r ≤ 3000) (ho : 116 ≤ o) (hF : 10000 < F) (ha : g_X9_firstPlaceOf y = nI a) (hn : g_X9_placesOf y = nI n) (han : a + n ≤ 40) : lp (fun (s : (Int32 × Int32)) => g_X9_changed_l60 F o (nI t) y (cSc uc o (nI k)) s.1 s.2) F ((0 : Int32), (0 : Int32)) = some (chB (rpm um r t).1 (rpm um r (t + 1)).1 a n) := by
  have h := lp_up (body := fun (s : Int32 × Int32) => g_X9_changed_l60 F o (nI t) y (cSc uc o (nI k)) s.1 s.2) (fun i => (chB (rpm um r t).1 (rpm um r (t + 1)).1 a i, nI i)) n (chB (rpm um r t).1 (rpm um r (t + 1)).1 a n) (fun i hi => by
    show g_X9_changed_l60 F o (nI t) y (cSc uc o (nI k)) (chB (rpm um r t).1 (rpm um r (t + 1)).1 a i) (nI i) = _
    obtain ⟨n1, b1, b2⟩ := c_readX (F := F) (k := k) (t := t) (p := a + i) hR (by omega) (by omega) hT3 ho hF
    obtain ⟨n2, b3, b4⟩ := c_readX (F := F) (k := k) (t := t + 1) (p := a + i) hR ht (by omega) hT3 ho hF
    unfold g_X9_changed_l60 g_X9_changed_j134
    rw [hn, if_neg (nI_ge hi (by omega)), ha, nI_add, b1, ob_i, b2, ob_i, nI_1, b3, ob_i, b4, ob_i, nI_1]
    show _ = some (Sum.inl (chB (rpm um r t).1 (rpm um r (t + 1)).1 a i ||| (if (rpm um r (t + 1)).1 (80 + (a + i)) = (rpm um r t).1 (80 + (a + i)) then 0 else dx_shl 1 (nI i)), nI (i + 1)))
    by_cases w : (rpm um r t).1 (80 + (a + i)) = (rpm um r (t + 1)).1 (80 + (a + i))
    · rw [if_pos w, if_pos w.symm, Int32.or_zero]
    · rw [if_neg w, if_neg (fun w2 => w w2.symm)]) (by
    show g_X9_changed_l60 F o (nI t) y (cSc uc o (nI k)) _ (nI n) = _
    unfold g_X9_changed_l60
    rw [hn, if_pos (nI_le (Nat.le_refl _) (by omega))]) F 0 (Nat.zero_le _) (by omega)
  exact h
theorem sr_changed (hF : 10000 < F) : SB pB (g_X9_changed F x y) (g_X10_changed F x y) := fun uc um h => by
  obtain ⟨K, W, r1, -⟩ := id h
  have h0 := Rel_zero h
  have m0 : okM (sF um 0 35 0) K W := okM_34 (by omega) r1
  have eA : aR (sF um 0 35 0) = aR um := rfl
  unfold g_X9_changed
  rw [lt1_i]
  rcases Rel_ask (F := F) h0 m0 with ⟨e5, en⟩ | ⟨ea, e5, h5, en, hR⟩
  · rw [en, ob_i, om_0]
    rcases m_changed (F := F) (x := x) (y := y) r1 hF with ⟨-, q, -⟩ | ⟨t, u', -, w, -⟩
    · exact ⟨_, _, rfl, q, rfl, h0⟩
    · rw [show um.2.1 5 (aR um) = 0 from e5] at w
      exact absurd w (by decide)
  · have hro := m0.1.2.2.2.2.1 _ ea
    have hT3 := hro.2.2.2.2.2.2.1.1.2.2.2.1
    rw [eA] at *
    have hT3' : Tr um (aR um) ≤ 3000 := hT3
    obtain ⟨N, hS⟩ := hR.2.2.2.2.2.2
    have h9 : rF (sF uc 0 13 0) (oR (aR um)) 9 = nI (Tr um (aR um)) := hS.1
    have e21 : um.2.1 21 (aR um) = nI (Tr um (aR um)) := hro.2.1
    rw [en, ob_i, om_i, ck_t (oR_rn h5), h9]
    have hpw : g_X9_isPlacesWhat y = 0 ↔ g_X10_isIn y 0 1 = 0 := by
      unfold g_X9_isPlacesWhat
      rw [← cl_flag]
    have bad : ¬ ((∃ t, t < Tr um (aR um) ∧ x = nI t) ∧ ¬ g_X10_isIn y 0 1 = 0) → ∃ zm, g_X10_changed F x y um = some zm ∧ (-1000001 : Int32) = zm.1 ∧ RelC pB (sF uc 0 13 0) zm.2 := fun hb => by
      rcases m_changed (F := F) (x := x) (y := y) r1 hF with ⟨-, q, -⟩ | ⟨t, u', -, w1, w2, w3, w4, -⟩
      · exact ⟨_, q, rfl, h0⟩
      · exact absurd ⟨⟨t, w2, w3⟩, w4⟩ hb
    by_cases q1 : x < 0
    · rw [if_pos q1]
      obtain ⟨zm, b1, b2, b3⟩ := bad (fun w => by
        obtain ⟨⟨t, ht, e⟩, -⟩ := w
        rw [e] at q1
        exact nI_pos (by omega) q1)
      exact ⟨_, zm, rfl, b1, b2, b3⟩
    rw [if_neg q1]
    obtain ⟨t, ht31, rfl⟩ := nI_of q1
    by_cases q2 : t < Tr um (aR um)
    · rw [if_neg (nI_ge q2 (by omega))]
      by_cases q3 : g_X10_isIn y 0 1 = 0
      · rw [if_pos (hpw.mpr q3)]
        obtain ⟨zm, b1, b2, b3⟩ := bad (fun w => w.2 q3)
        exact ⟨_, zm, rfl, b1, b2, b3⟩
      · rw [if_neg (fun w => q3 (hpw.mp w))]
        rcases m_changed (F := F) (x := nI t) (y := y) r1 hF with ⟨w, -⟩ | ⟨t2, u', w0, w1, w2, w3, w4, q, hok, hce⟩
        · refine absurd ⟨⟨e5, t, by omega, rfl⟩, fun w2 => ?_, q3⟩ w
          rw [e21] at w2
          have := nI_inj ht31 (by omega) w2
          omega
        · have et : t2 = t := nI_inj (by omega) ht31 w3.symm
          subst et
          have ho := oR_ge (r := aR um)
          have hr1 := c_replayX (F := F) (k := 0) (t := t2) hR hro (show t2 ≤ Tr um (aR um) by omega) ho hF
          rw [show nI 0 = (0 : Int32) from rfl, cSc_0, Nat.zero_add] at hr1
          have hr2 := c_replayX (F := F) (k := costM (sF um 0 35 0) (aR um) t2) (t := t2 + 1) hR hro (show t2 + 1 ≤ Tr um (aR um) by omega) ho hF
          rw [hr1, ob_i, nI_1, hr2, ob_i]
          have eR : ∀ s, rpm (sF um 0 35 0) (aR um) s = rpm um (aR um) s := fun _ => rfl
          have ec : ∀ s, costM (sF um 0 35 0) (aR um) s = costM um (aR um) s := fun _ => rfl
          have hRel : RelC pB (cSc (sF uc 0 13 0) (oR (aR um)) (nI (costM um (aR um) t2 + costM um (aR um) (t2 + 1)))) u' := Rel_e (Rel_cS h0 m0 ea) ⟨core_cS m0.1, simM_cS m0.2⟩ hce hok
          rw [ec, ec]
          by_cases y0 : y = 0
          · have hl := c_chl (F := F) (y := y) (k := costM um (aR um) t2 + costM um (aR um) (t2 + 1)) (a := 0) (n := 8) hR (show t2 + 1 ≤ Tr um (aR um) by omega) hT3' ho hF (by unfold g_X9_firstPlaceOf; rw [if_pos y0]; rfl) (by unfold g_X9_placesOf; rw [if_pos y0]; rfl) (by omega)
            rw [hl, ob_i]
            rw [if_pos y0] at q
            exact ⟨_, _, rfl, q, rfl, hRel⟩
          · have hl := c_chl (F := F) (y := y) (k := costM um (aR um) t2 + costM um (aR um) (t2 + 1)) (a := 8) (n := 32) hR (show t2 + 1 ≤ Tr um (aR um) by omega) hT3' ho hF (by unfold g_X9_firstPlaceOf; rw [if_neg y0]; rfl) (by unfold g_X9_placesOf; rw [if_neg y0]; rfl) (by omega)
            rw [hl, ob_i]
            rw [if_neg y0] at q
            exact ⟨_, _, rfl, q, rfl, hRel⟩
    · rw [if_pos (nI_le (by omega) ht31)]
      obtain ⟨zm, b1, b2, b3⟩ := bad (fun w => by
        obtain ⟨⟨t', ht', e⟩, -⟩ := w
        have := nI_inj ht31 (by omega) e
        omega)
      exact ⟨_, zm, rfl, b1, b2, b3⟩
/-! how often a place has changed, by the puts -/
theorem cnt_seq (h : PI u q T N) (hp : p < 40) : ∃ c : Nat → Nat, c 0 = 0 ∧ (∀ k, k ≤ N → vS (u.2.1 (q + 5)) 0 (lat (u.2.1 (q + 2)) p k) = nI (c k)) ∧ (∀ k, k < N → c k ≤ c (k + 1)) ∧ (∀ k, c k ≤ k) := by
  obtain ⟨hN, h8, hT, hm, hl, hx⟩ := h
  let c : Nat → Nat := fun n => Nat.rec (motive := fun _ => Nat) 0 (fun k ck => ck + (if u.2.1 (q + 2) k = nI p ∧ ¬ (vS (u.2.1 (q + 3)) 0 (u.2.1 (q + 6) k) = u.2.1 (q + 3) k ∧ vS (u.2.1 (q + 4)) 0 (u.2.1 (q + 6) k) = u.2.1 (q + 4) k) then 1 else 0)) n
  have cs : ∀ k, c (k + 1) = c k + (if u.2.1 (q + 2) k = nI p ∧ ¬ (vS (u.2.1 (q + 3)) 0 (u.2.1 (q + 6) k) = u.2.1 (q + 3) k ∧ vS (u.2.1 (q + 4)) 0 (u.2.1 (q + 6) k) = u.2.1 (q + 4) k) then 1 else 0) := fun _ => rfl
  refine ⟨c, rfl, fun k => ?_, fun k _ => ?_, fun k => ?_⟩
  · induction k with
    | zero => intro _; rfl
    | succ k ih =>
      intro hk
      have ih := ih (by omega)
      rw [cs]
      by_cases w : u.2.1 (q + 2) k = nI p
      · obtain ⟨s, p', b1, b2, b3, b4, b5, b6⟩ := hx k (by omega)
        have ep : p' = p := nI_inj (by omega) (by omega) (b4.symm.trans w)
        subst ep
        rw [lat_y w, vS_n (by omega), b6]
        by_cases w2 : vS (u.2.1 (q + 3)) 0 (u.2.1 (q + 6) k) = u.2.1 (q + 3) k ∧ vS (u.2.1 (q + 4)) 0 (u.2.1 (q + 6) k) = u.2.1 (q + 4) k
        · rw [if_pos w2, if_neg (fun w3 => w3.2 w2), b5, ih, Int32.add_zero, Nat.add_zero]
        · rw [if_neg w2, if_pos ⟨w, w2⟩, b5, ih, nI_1]
      · rw [lat_n w, if_neg (fun w3 => w w3.1), Nat.add_zero]
        exact ih
  · rw [cs]
    exact Nat.le_add_right _ _
  · induction k with
    | zero => exact Nat.le_refl _
    | succ k ih =>
      rw [cs]
      split <;> omega
theorem seq_mono {c : Nat → Nat} (h : ∀ k, k < N → c k ≤ c (k + 1)) : ∀ b, b ≤ N → ∀ a, a ≤ b → c a ≤ c b
  | 0, _, a, ha => by rw [show a = 0 by omega]; exact Nat.le_refl _
  | b + 1, hb, a, ha => by
    rcases Nat.lt_or_ge b a with w | w
    · rw [show a = b + 1 by omega]; exact Nat.le_refl _
    · exact Nat.le_trans (seq_mono h b (by omega) a w) (h b (by omega))
/-- since when a place has as many changes as at t -/
theorem c_changedSince {a0 : Nat} (h : PI u q T N) (hp : p < 40) (ha : lat (u.2.1 (q + 2)) p (cP (u.2.1 (q + 1)) t N) = nI a0) (ha0 : a0 < N) (hv : ¬ vS (u.2.1 (q + 5)) 0 (nI a0) = 0) (hF : 10000 < F) : ∃ s, s ≤ T ∧ g_X6_changedSince F q (nI a0) u = some (nI s) ∧ ∀ m, m ≤ t → (vS (u.2.1 (q + 5)) 0 (lat (u.2.1 (q + 2)) p (cP (u.2.1 (q + 1)) m N)) = vS (u.2.1 (q + 5)) 0 (nI a0) ↔ s ≤ m) := by
  obtain ⟨c, c0, c1, c2, c3⟩ := cnt_seq h hp
  obtain ⟨hN, h8, hT, hm, hl, hx⟩ := id h
  have hc := cP_le (pt := u.2.1 (q + 1)) (t := t) N
  have vt : vS (u.2.1 (q + 5)) 0 (nI a0) = nI (c (cP (u.2.1 (q + 1)) t N)) := by rw [← ha, c1 _ hc]
  obtain ⟨l1, l2, l3⟩ := lat_some (cP (u.2.1 (q + 1)) t N) (by omega) ha (by omega)
  have hch : ∀ i, i < N → u.2.1 (q + 2) i = nI p → u.2.1 (q + 5) i = nI (c (i + 1)) := fun i hi e => by
    rw [← c1 (i + 1) (by omega), lat_y e, vS_n (by omega)]
  have va0 : c (a0 + 1) = c (cP (u.2.1 (q + 1)) t N) := by
    have e1 := c1 (a0 + 1) (by omega)
    rw [lat_y l2, vt] at e1
    exact (nI_inj (by have := c3 (cP (u.2.1 (q + 1)) t N); omega) (by have := c3 (a0 + 1); omega) e1).symm
  have key : Tt (g_X6_changedSince F q (nI a0) u) (fun x => ∃ a, a ≤ a0 ∧ u.2.1 (q + 2) a = nI p ∧ c a < c (a0 + 1) ∧ c (a + 1) = c (a0 + 1) ∧ x = u.2.1 (q + 1) a) := by
    unfold g_X6_changedSince
    rw [hN]
    have fin : ∀ a, a < N → Tt (g_X6_changedSince_j55 F q (nI a) u) (fun x => x = u.2.1 (q + 1) a) := fun a haN => by
      unfold g_X6_changedSince_j55
      rw [x6_time hN h8 (Or.inr ⟨a, haN, rfl⟩), ob_i, vS_n (by omega)]
      exact tt_s rfl
    refine tt_ob (tt_lp (I := fun s => ∃ a k : Nat, a ≤ a0 ∧ a < k ∧ k ≤ N ∧ s.1 = nI a ∧ s.2 = nI k ∧ u.2.1 (q + 2) a = nI p ∧ c (a + 1) = c (a0 + 1)) (m := fun s => s.2.toInt.toNat) (P := fun w => ∃ a, a ≤ a0 ∧ u.2.1 (q + 2) a = nI p ∧ c a < c (a0 + 1) ∧ c (a + 1) = c (a0 + 1) ∧ (w = Sum.inl (nI a) ∨ w = Sum.inr (nI a))) ?_ F _ ?_ ?_) (fun w hw => ?_)
    · rintro ⟨s1, s2⟩ ⟨a, k, b1, b2, b3, b4, b5, b6, b7⟩
      dsimp only at b4 b5 ⊢
      subst b4 b5
      obtain ⟨s, p', d1, d2, d3, d4, d5, -⟩ := hx a (by omega)
      have ep : p' = p := nI_inj (by omega) (by omega) (d4.symm.trans b6)
      subst ep
      unfold g_X6_changedSince_l7
      rw [if_neg (nI_nle (by omega) (by omega)), x6_ahead hN h8 (Or.inr ⟨a, by omega, rfl⟩), ob_i, vS_n (by omega), d5]
      rcases lat_pt (pp := u.2.1 (q + 2)) (p := p') a with e | ⟨a', ha', e⟩
      · rw [e, x6_has_n, ob_i, if_pos rfl]
        refine tt_r ⟨a, b1, b6, ?_, b7, Or.inr rfl⟩
        have e1 := c1 a (by omega)
        rw [e, vS_0] at e1
        have e0 : c a = 0 := (nI_inj (b := c a) (a := 0) (by omega) (by have := c3 a; omega) e1).symm
        rcases Nat.eq_zero_or_pos (c (a0 + 1)) with z | z
        · exfalso
          apply hv
          rw [vt, ← va0, z]
          rfl
        · omega
      · obtain ⟨f1, f2, f3⟩ := lat_some a (by omega) e (by omega)
        rw [e, x6_has_y hN h8 (by omega), ob_i, if_neg (by decide), ob_i, x6_changes hN h8 (Or.inr ⟨a', by omega, rfl⟩), ob_i, vS_n (by omega), x6_changes hN h8 (Or.inr ⟨a0, ha0, rfl⟩), ob_i, vS_n (by omega), hch a' (by omega) f2, hch a0 ha0 l2]
        have ca : c a = c (a' + 1) := by
          have e1 := c1 a (by omega)
          have e2 := c1 (a' + 1) (by omega)
          rw [e, vS_n (by omega)] at e1
          rw [lat_y f2, vS_n (by omega)] at e2
          exact nI_inj (by have := c3 a; omega) (by have := c3 (a' + 1); omega) (e1.symm.trans e2)
        by_cases w : c (a' + 1) = c (a0 + 1)
        · rw [if_pos (by rw [w]), ob_i]
          refine tt_l ⟨⟨a', k - 1, by omega, by omega, by omega, rfl, ?_, f2, w⟩, ms_d0 (by omega) (by omega)⟩
          show nI k + -1 = nI (k - 1)
          have := nI_dec (k := k - 1)
          rwa [show k - 1 + 1 = k by omega] at this
        · rw [if_neg (fun w2 => w (nI_inj (by have := c3 (a' + 1); omega) (by have := c3 (a0 + 1); omega) w2))]
          have := c2 a (by omega)
          exact tt_r ⟨a, b1, b6, by omega, b7, Or.inl rfl⟩
    · exact ms_n (by omega) (by omega)
    · exact ⟨a0, N, Nat.le_refl _, ha0, Nat.le_refl _, rfl, rfl, l2, rfl⟩
    · obtain ⟨a, d1, d2, d3, d4, d5⟩ := hw
      rcases d5 with rfl | rfl
      · exact tt_w (fin a (by omega)) (fun x hx => ⟨a, d1, d2, d3, d4, hx⟩)
      · exact tt_w (fin a (by omega)) (fun x hx => ⟨a, d1, d2, d3, d4, hx⟩)
  obtain ⟨x, e, a, d1, d2, d3, d4, d5⟩ := key
  obtain ⟨s, p', g1, g2, g3, -⟩ := hx a (by omega)
  refine ⟨s, g1, by rw [e, d5, g3], fun m hm' => ?_⟩
  have hcm := cP_le (pt := u.2.1 (q + 1)) (t := m) N
  have hmt := cP_mono (pt := u.2.1 (q + 1)) hm' N
  rw [c1 _ hcm, vt, ← va0]
  have i1 : a < cP (u.2.1 (q + 1)) m N ↔ s ≤ m := by
    rw [cP_iff N hm a (by omega), g3, tnn (by omega)]
  rw [← i1]
  constructor
  · intro w
    have w2 := nI_inj (by have := c3 (cP (u.2.1 (q + 1)) m N); omega) (by have := c3 (a0 + 1); omega) w
    rcases Nat.lt_or_ge a (cP (u.2.1 (q + 1)) m N) with y | y
    · exact y
    · have := seq_mono c2 a (by omega) _ y
      omega
  · intro w
    have x1 := seq_mono c2 (cP (u.2.1 (q + 1)) m N) hcm (a + 1) (by omega)
    have x2 := seq_mono c2 (cP (u.2.1 (q + 1)) t N) hc (cP (u.2.1 (q + 1)) m N) hmt
    rw [show c (cP (u.2.1 (q + 1)) m N) = c (a0 + 1) by omega]
end YI
end W_85
section W_86
-- 97zzs.last
/-! the class and the reference: last, watched -/
section YJ
variable {pB : Prop} {F K W o r t p q T N : Nat} {u uc um uc' um' : rg_U} {x y z v : Int32}
theorem c_since (hR : RR pB uc um o r) (ht : t ≤ Tr um r) (hp : p < 40) (hT3 : Tr um r ≤ 3000) (hv : ¬ (rpm um r t).1 (80 + p) = 0) (hF : 10000 < F) : ∃ n s, g_X6_putBy F (o + 12) (nI t) (nI p) uc = some n ∧ g_X6_changesOf F (o + 12) n uc = some ((rpm um r t).1 (80 + p)) ∧ g_X6_changedSince F (o + 12) n uc = some (nI s) ∧ s ≤ Tr um r ∧ ∀ m, m ≤ t → ((rpm um r m).1 (80 + p) = (rpm um r t).1 (80 + p) ↔ s ≤ m) := by
  obtain ⟨N, hS⟩ := hR.2.2.2.2.2.2
  have hP := hS.2.2.2.1
  have hrow : ∀ m, m ≤ Tr um r → vS (uc.2.1 (o + 12 + 5)) 0 (lat (uc.2.1 (o + 12 + 2)) p (cP (uc.2.1 (o + 12 + 1)) m N)) = (rpm um r m).1 (80 + p) := fun m hm => by
    have w := (hS.2.2.2.2 m hm).1 p hp
    dsimp only at w
    rw [show o + 13 = o + 12 + 1 from rfl] at w
    exact w.2.2.symm
  have hpt : isPt N (lat (uc.2.1 (o + 12 + 2)) p (cP (uc.2.1 (o + 12 + 1)) t N)) := lat_ok (cP_le N)
  rcases id hpt with e | ⟨a0, ha0, e⟩
  · have := hrow t ht
    rw [e, vS_0] at this
    exact absurd this.symm hv
  · obtain ⟨s, s1, s2, s3⟩ := c_changedSince (F := F) (t := t) hP hp e ha0 (by rw [← e, hrow t ht]; exact hv) hF
    refine ⟨nI a0, s, ?_, ?_, s2, s1, fun m hm => ?_⟩
    · rw [← e]; exact c_putBy hP hp (by omega) hF
    · rw [← e, x6_changes hP.1 hP.2.1 hpt, hrow t ht]
    · rw [← hrow m (by omega), ← hrow t ht, e]
      exact s3 m hm
theorem c_hv {s : Nat} {c : Int32} (hR : RR pB uc um o r) (hro : runOK um r) (ho : 116 ≤ o) (hF : 10000 < F) (hT : T ≤ Tr um r) (hT3 : T ≤ 3000) (hs3 : s ≤ 3000) (hs : ∀ m, m ≤ T → ((rpm um r m).1 (80 + p) = c ↔ s ≤ m)) : ∀ (f lo hi k : Nat), hi ≤ T → hi - lo ≤ f → lo ≤ hi → ∀ G, f < G → lp (fun (z : Int32 × Int32 × rg_U) => g_X9_lastChange_l48 F o (nI s) z.1 z.2.1 z.2.2) G (nI lo, nI hi, cSc uc o (nI k)) = some (nI (hvg (fun m => (rpm um r m).1 (80 + p) = c) (costM um r) f lo hi).1, cSc uc o (nI (k + (hvg (fun m => (rpm um r m).1 (80 + p) = c) (costM um r) f lo hi).2)))
  | f, lo, hi, k, h1, h2, h3, G, hG => by
    match G, hG with
    | 0, hG => omega
    | G + 1, hG =>
    by_cases q : lo < hi
    · match f, h2, hG with
      | 0, h2, hG => omega
      | f + 1, h2, hG =>
        have hb : g_X9_lastChange_l48 F o (nI s) (nI lo) (nI hi) (cSc uc o (nI k)) = if s ≤ (lo + hi) / 2 then some (.inl (nI lo, nI ((lo + hi) / 2), cSc uc o (nI (k + costM um r ((lo + hi) / 2))))) else some (.inl (nI ((lo + hi) / 2 + 1), nI hi, cSc uc o (nI (k + costM um r ((lo + hi) / 2))))) := by
          unfold g_X9_lastChange_l48 g_X9_lastChange_j91
          rw [if_neg (nI_ge q (by omega)), nI_add, show nI (lo + hi) / 2 = nI ((lo + hi) / 2) from pk_div (d := 2) (by omega) (by decide) (by decide), c_replayX hR hro (by omega) ho hF, ob_i, nI_1]
          by_cases z : s ≤ (lo + hi) / 2
          · rw [if_neg (nI_nlt z (by omega)), if_pos z]
          · rw [if_pos (nI_lt (by omega) (by omega)), if_neg z]
        have hc := hs ((lo + hi) / 2) (by omega)
        by_cases z : s ≤ (lo + hi) / 2
        · rw [if_pos z] at hb
          rw [lp_l (body := fun (z : Int32 × Int32 × rg_U) => g_X9_lastChange_l48 F o (nI s) z.1 z.2.1 z.2.2) (s := (nI lo, nI hi, cSc uc o (nI k))) hb, hvg_y (c := fun m => (rpm um r m).1 (80 + p) = c) q (hc.mpr z), c_hv hR hro ho hF hT hT3 hs3 hs f lo ((lo + hi) / 2) (k + costM um r ((lo + hi) / 2)) (by omega) (by omega) (by omega) G (by omega)]
          dsimp only
          rw [← Nat.add_assoc]
        · rw [if_neg z] at hb
          rw [lp_l (body := fun (z : Int32 × Int32 × rg_U) => g_X9_lastChange_l48 F o (nI s) z.1 z.2.1 z.2.2) (s := (nI lo, nI hi, cSc uc o (nI k))) hb, hvg_n (c := fun m => (rpm um r m).1 (80 + p) = c) q (fun w => z (hc.mp w)), c_hv hR hro ho hF hT hT3 hs3 hs f ((lo + hi) / 2 + 1) hi (k + costM um r ((lo + hi) / 2)) (by omega) (by omega) (by omega) G (by omega)]
          dsimp only
          rw [← Nat.add_assoc]
    · have hb : g_X9_lastChange_l48 F o (nI s) (nI lo) (nI hi) (cSc uc o (nI k)) = some (.inr (nI lo, cSc uc o (nI k))) := by
        unfold g_X9_lastChange_l48
        rw [if_pos (nI_le (by omega) (by omega))]
      have he : hvg (fun m => (rpm um r m).1 (80 + p) = c) (costM um r) f lo hi = (lo, 0) := by
        cases f with
        | zero => rfl
        | succ f => exact if_neg q
      rw [lp_r (body := fun (z : Int32 × Int32 × rg_U) => g_X9_lastChange_l48 F o (nI s) z.1 z.2.1 z.2.2) (s := (nI lo, nI hi, cSc uc o (nI k))) hb, he]
      rfl
theorem c_lastChange {k : Nat} (hR : RR pB uc um o r) (hro : runOK um r) (ht : t ≤ Tr um r) (hp : p < 40) (hT3 : Tr um r ≤ 3000) (ho : 116 ≤ o) (hF : 10000 < F) : g_X9_lastChange F o (nI t) (nI p) (cSc uc o (nI k)) = some (laA um r t p, cSc uc o (nI (k + laC um r t p))) := by
  unfold g_X9_lastChange
  rw [c_replayX hR hro ht ho hF, ob_i]
  unfold laA laC
  by_cases q : (rpm um r t).1 (80 + p) = 0
  · obtain ⟨n, b1, b2⟩ := c_readX (F := F) (k := k + costM um r t) (p := p) hR ht hp hT3 ho hF
    rw [b1, ob_i, b2, ob_i, if_pos q, if_pos q, if_pos q, Nat.add_zero]
  · obtain ⟨n, s, b1, b2, b3, b4, b5⟩ := c_since (F := F) (RR_x hR ho (nI (k + costM um r t))) ht hp hT3 (by rw [rpm_cS]; exact q) hF
    have b4' : s ≤ Tr um r := b4
    rw [rpm_cS] at b2
    rw [b1, ob_i, b2, ob_i, if_neg q, if_neg q, if_neg q, b3, ob_i]
    have h := c_hv (F := F) (s := s) (p := p) (c := (rpm um r t).1 (80 + p)) (T := t) hR hro ho hF ht (by omega) (by omega) (fun m hm => by
      have w := b5 m hm
      rw [rpm_cS, rpm_cS] at w
      exact w) t 0 t (k + costM um r t) (Nat.le_refl _) (by omega) (by omega) F (by omega)
    rw [show nI 0 = (0 : Int32) from rfl] at h
    rw [h, ob_i, Nat.add_assoc]
theorem sr_last (hF : 10000 < F) : SB pB (g_X9_last F x y) (g_X10_last F x y) := fun uc um h => by
  obtain ⟨K, W, r1, -⟩ := id h
  have h0 := Rel_zero h
  have m0 : okM (sF um 0 35 0) K W := okM_34 (by omega) r1
  have eA : aR (sF um 0 35 0) = aR um := rfl
  unfold g_X9_last
  rw [lt1_i]
  rcases Rel_ask (F := F) h0 m0 with ⟨e5, en⟩ | ⟨ea, e5, h5, en, hR⟩
  · rw [en, ob_i, om_0]
    rcases m_last (F := F) (x := x) (y := y) r1 hF with ⟨-, q, -⟩ | ⟨t, p, u', -, w, -⟩
    · exact ⟨_, _, rfl, q, rfl, h0⟩
    · rw [show um.2.1 5 (aR um) = 0 from e5] at w
      exact absurd w (by decide)
  · have hro := m0.1.2.2.2.2.1 _ ea
    have hT3 := hro.2.2.2.2.2.2.1.1.2.2.2.1
    rw [eA] at *
    obtain ⟨N, hS⟩ := hR.2.2.2.2.2.2
    rw [en, ob_i, om_i, ck_t (oR_rn h5), cl_place]
    have bad : ¬ (isTm um x ∧ ¬ g_X10_isPlace y = 0) → ∃ zm, g_X10_last F x y um = some zm ∧ (-2 : Int32) = zm.1 ∧ RelC pB (sF uc 0 13 0) zm.2 := fun hb => by
      rcases m_last (F := F) (x := x) (y := y) r1 hF with ⟨-, q, -⟩ | ⟨t, p, u', -, w1, w2, w3, w4, w5, -⟩
      · exact ⟨_, q, rfl, h0⟩
      · exact absurd ⟨⟨w1, t, w2, w3⟩, by rw [w5]; exact in_nI (a := 0) (b := 39) (by omega) (by omega) (by decide)⟩ hb
    rcases x7_hasI (F := F) (x := x) hS.1 hT3 with ⟨q1, q2⟩ | ⟨t, ht, rfl, q1⟩
    · rw [q1, ob_i, if_pos rfl]
      obtain ⟨zm, b1, b2, b3⟩ := bad (fun w => q2 w.1.2)
      exact ⟨_, zm, rfl, b1, b2, b3⟩
    · rw [q1, ob_i, if_neg (by decide)]
      by_cases q2 : g_X10_isPlace y = 0
      · rw [if_pos q2]
        obtain ⟨zm, b1, b2, b3⟩ := bad (fun w => w.2 q2)
        exact ⟨_, zm, rfl, b1, b2, b3⟩
      · rw [if_neg q2]
        rcases m_last (F := F) (x := nI t) (y := y) r1 hF with ⟨w, -⟩ | ⟨t2, p, u', w0, w1, w2, w3, w4, w5, q, hok, hce⟩
        · exact absurd ⟨⟨e5, t, ht, rfl⟩, q2⟩ w
        · have et : t2 = t := nI_inj (by have : Tr um (aR um) ≤ 3000 := hT3; omega) (by have : Tr um (aR um) ≤ 3000 := hT3; have : t ≤ Tr um (aR um) := ht; omega) w3.symm
          subst et
          have hl := c_lastChange (F := F) (k := 0) (t := t2) (p := p) hR hro ht w4 hT3 oR_ge hF
          have el : laA (sF um 0 35 0) (aR um) t2 p = laA um (aR um) t2 p := rfl
          have ec : laC (sF um 0 35 0) (aR um) t2 p = laC um (aR um) t2 p := rfl
          rw [show nI 0 = (0 : Int32) from rfl, cSc_0, Nat.zero_add, el, ec] at hl
          rw [w5] at q
          rw [w5, hl, ob_i]
          exact ⟨_, _, rfl, q, rfl, Rel_e (Rel_cS h0 m0 ea) ⟨core_cS m0.1, simM_cS m0.2⟩ hce hok⟩
theorem sr_watched (hF : 10000 < F) : SB pB (g_X9_watched F x) (g_X10_watched F x) := fun uc um h => by
  obtain ⟨K, W, r1, -⟩ := id h
  have h0 := Rel_zero h
  have m0 : okM (sF um 0 35 0) K W := okM_34 (by omega) r1
  have eA : aR (sF um 0 35 0) = aR um := rfl
  have hW : WR uc um := by
    obtain ⟨K2, W2, -, -, -, w, -⟩ := id h
    exact w
  have h01 : ∀ p, p < 40 → um.2.1 30 p = 0 ∨ um.2.1 30 p = 1 := r1.1.2.2.2.2.2.2.2
  unfold g_X9_watched
  rw [lt1_i]
  rcases Rel_ask (F := F) h0 m0 with ⟨e5, en⟩ | ⟨ea, e5, h5, en, hR⟩
  · rw [en, ob_i, om_0]
    rcases m_watched (F := F) (x := x) r1 hF with ⟨-, q, -⟩ | ⟨t, u', -, w, -⟩
    · exact ⟨_, _, rfl, q, rfl, h0⟩
    · rw [show um.2.1 5 (aR um) = 0 from e5] at w
      exact absurd w (by decide)
  · have hro := m0.1.2.2.2.2.1 _ ea
    have hT3 := hro.2.2.2.2.2.2.1.1.2.2.2.1
    rw [eA] at *
    have hT3' : Tr um (aR um) ≤ 3000 := hT3
    obtain ⟨N, hS⟩ := hR.2.2.2.2.2.2
    have h9 : rF (sF uc 0 13 0) (oR (aR um)) 9 = nI (Tr um (aR um)) := hS.1
    rw [en, ob_i, om_i, ck_t (oR_rn h5), h9]
    have bad : ¬ (∃ t, 1 ≤ t ∧ t ≤ Tr um (aR um) ∧ x = nI t) → ∃ zm, g_X10_watched F x um = some zm ∧ (-2 : Int32) = zm.1 ∧ RelC pB (sF uc 0 13 0) zm.2 := fun hb => by
      rcases m_watched (F := F) (x := x) r1 hF with ⟨-, q, -⟩ | ⟨t, u', -, w1, w2, w3, w4, -⟩
      · exact ⟨_, q, rfl, h0⟩
      · exact absurd ⟨t, w2, w3, w4⟩ hb
    by_cases q1 : x < 1
    · rw [if_pos q1]
      obtain ⟨zm, b1, b2, b3⟩ := bad (fun ⟨t, a1, a2, a3⟩ => by
        rw [a3] at q1
        exact nI_nlt (a := t) (b := 1) a1 (by omega) q1)
      exact ⟨_, zm, rfl, b1, b2, b3⟩
    rw [if_neg q1]
    have q0 : ¬ x < 0 := by
      intro w
      rw [Int32.lt_iff_toInt_lt] at w q1
      have e1 : (1 : Int32).toInt = 1 := rfl
      have e0 : (0 : Int32).toInt = 0 := rfl
      omega
    obtain ⟨t, ht31, rfl⟩ := nI_of q0
    have ht1 : 1 ≤ t := by
      rcases Nat.eq_zero_or_pos t with z | z
      · subst z; exact absurd (by decide) q1
      · exact z
    by_cases q2 : t ≤ Tr um (aR um)
    · rw [if_pos (nI_le q2 (by omega))]
      rcases m_watched (F := F) (x := nI t) r1 hF with ⟨w, -⟩ | ⟨t2, u', w0, w1, w2, w3, w4, q, hok, hce⟩
      · exact absurd ⟨q1, e5, t, q2, rfl⟩ w
      · have et : t2 = t := nI_inj (by omega) ht31 w4.symm
        subst et
        have ho := oR_ge (r := aR um)
        have h := lp_up (body := fun (s : Int32 × Int32 × rg_U) => g_X9_watched_l39 F (oR (aR um)) (nI t2) s.1 s.2.1 s.2.2) (fun i => ((wtA um (aR um) (t2 - 1) i).1, nI i, cSc (sF uc 0 13 0) (oR (aR um)) (nI (wtA um (aR um) (t2 - 1) i).2))) 40 ((wtA um (aR um) (t2 - 1) 40).1, cSc (sF uc 0 13 0) (oR (aR um)) (nI (wtA um (aR um) (t2 - 1) 40).2)) (fun i hi => by
          show g_X9_watched_l39 F (oR (aR um)) (nI t2) (wtA um (aR um) (t2 - 1) i).1 (nI i) (cSc (sF uc 0 13 0) (oR (aR um)) (nI (wtA um (aR um) (t2 - 1) i).2)) = _
          have hw : g_X9_isWatched F (nI i) (cSc (sF uc 0 13 0) (oR (aR um)) (nI (wtA um (aR um) (t2 - 1) i).2)) = some (um.2.1 30 i) := c_isWatched (WR_c hW ((sF_n (by omega)).trans ((sF_n (by omega)).trans (sF_n (by omega)))) ((sF_n (by omega)).trans ((sF_n (by omega)).trans (sF_n (by omega)))) rfl) h01 hi
          unfold g_X9_watched_l39 g_X9_watched_j70
          rw [if_neg (show ¬ (40 : Int32) ≤ nI i from nI_ge (a := i) (b := 40) (by omega) (by decide)), hw, ob_i, nI_1]
          by_cases z : um.2.1 30 i = 0
          · have ew : wtA um (aR um) (t2 - 1) (i + 1) = wtA um (aR um) (t2 - 1) i := if_pos z
            rw [if_pos z, ew]
          · have ew : wtA um (aR um) (t2 - 1) (i + 1) = (imax (wtA um (aR um) (t2 - 1) i).1 (laA um (aR um) (t2 - 1) i), (wtA um (aR um) (t2 - 1) i).2 + laC um (aR um) (t2 - 1) i) := if_neg z
            have hl := c_lastChange (F := F) (k := (wtA um (aR um) (t2 - 1) i).2) (t := t2 - 1) (p := i) hR hro (show t2 - 1 ≤ Tr um (aR um) by omega) hi hT3 ho hF
            have el : laA (sF um 0 35 0) (aR um) (t2 - 1) i = laA um (aR um) (t2 - 1) i := rfl
            have ec : laC (sF um 0 35 0) (aR um) (t2 - 1) i = laC um (aR um) (t2 - 1) i := rfl
            rw [el, ec] at hl
            rw [if_neg z, show nI t2 - 1 = nI (t2 - 1) from nI_sub (a := t2) (b := 1) ht1, hl, ob_i]
            dsimp only
            rw [ew]) (by
          show g_X9_watched_l39 F (oR (aR um)) (nI t2) _ (nI 40) _ = _
          unfold g_X9_watched_l39
          rw [if_pos (by decide)]) F 0 (by omega) (by omega)
        have e0 : ((wtA um (aR um) (t2 - 1) 0).1, nI 0, cSc (sF uc 0 13 0) (oR (aR um)) (nI (wtA um (aR um) (t2 - 1) 0).2)) = ((-1 : Int32), (0 : Int32), sF uc 0 13 0) := by
          show ((-1 : Int32), nI 0, cSc (sF uc 0 13 0) (oR (aR um)) (nI 0)) = _
          rw [show nI 0 = (0 : Int32) from rfl, cSc_0]
        rw [e0] at h
        rw [h, ob_i]
        exact ⟨_, _, rfl, q, rfl, Rel_e (Rel_cS h0 m0 ea) ⟨core_cS m0.1, simM_cS m0.2⟩ hce hok⟩
    · rw [if_neg (nI_ge (by omega) ht31)]
      obtain ⟨zm, b1, b2, b3⟩ := bad (fun ⟨t', a1, a2, a3⟩ => by
        have := nI_inj ht31 (by omega) a3
        omega)
      exact ⟨_, zm, rfl, b1, b2, b3⟩
end YJ
end W_86
section W_87
-- 97zzt.align
/-! the class and the reference: align -/
/-- nothing but the rows and the pairs of what lies beside is other -/
def lyX (u0 u : rg_U) : Prop := u.2.2 = u0.2.2 ∧ (∀ j, (j < 10 ∨ 115 ≤ j) → u.2.1 j = u0.2.1 j) ∧ ∀ k, k ≠ 803 → u.1 k = u0.1 k
section YK
variable {pB : Prop} {F K W o o1 o2 r r1 r2 C D i j : Nat} {u uc um uc' um' v w : rg_U} {x y z : Int32}
theorem ly_r : lyX u u := ⟨rfl, fun _ _ => rfl, fun _ _ => rfl⟩
theorem ly_R {k : Nat} (h : lyX u v) (hj : 10 ≤ j ∧ j < 115) : lyX u (rg_R v j k x) := ⟨h.1, fun j' hj' => (R_n (by omega)).trans (h.2.1 j' hj'), h.2.2⟩
theorem ly_F (h : lyX u v) : lyX u (sF v 8 3 x) := ⟨h.1, h.2.1, fun k hk => (sF_n hk).trans (h.2.2 k hk)⟩
theorem ly_B (h : lyX u v) (hX : okX u) : okX v := by
  refine ⟨fun p hp => ?_, ?_⟩
  · have hn : wkN 803 := by decide
    rw [h.2.2 _ (hn p hp)]
    exact hX.1 p hp
  · unfold wkG
    rw [h.1]
    exact hX.2
theorem Rel_ly (h : RelC pB uc um) (hl : lyX uc uc') : RelC pB uc' um := by
  obtain ⟨K, W, r1, r2, r3, r4, ⟨s1, s2, s3, s4, s5⟩, r6, r7, r8, r9⟩ := h
  have hK := r1.1.1.2.1
  have cf : ∀ k, k ≠ 803 → uc'.1 k = uc.1 k := hl.2.2
  refine ⟨K, W, r1, ly_B hl r2, OutR_c r3 (cf _ (by omega)) (cf _ (by omega)) (cf _ (by omega)) (hl.2.1 7 (by omega)) rfl rfl, WR_c r4 (cf _ (by omega)) (cf _ (by omega)) rfl, ⟨(cf _ (by omega)).trans s1, (cf _ (by omega)).trans s2, (cf _ (by omega)).trans s3, (cf _ (by omega)).trans s4, fun hb => (cf _ (by omega)).trans (s5 hb)⟩, ?_, fun z k hz hk => ?_, fun h1 => ?_, fun q hq => ⟨?_, ?_⟩⟩
  · rw [show rG uc' 0 7 = rG uc 0 7 by unfold rG; rw [hl.1]]
    exact r6
  · rw [hl.2.1 _ (by omega)]
    exact r7 z k hz hk
  · exact RR_f (r8 h1) (fun j j1 _ => hl.2.1 j (by omega)) (fun k k1 k2 => cf k (by omega))
  · exact RR_f (r9 q hq).1 (fun j j1 _ => hl.2.1 j (by omega)) (fun k k1 k2 => cf k (by omega))
  · exact (cf _ (by omega)).trans (r9 q hq).2
theorem c_rowQ (hG : wkG uc) (h : lyX uc u) (hi : i < 101) : rQ u 9 (nI i) = some (10 + i) := by
  unfold rQ
  rw [h.1, nI_clamp (by omega)]
  exact hG.2.2 i hi
theorem rw_i (hi : i < 101) : isRw (10 + i) := ⟨by omega, by omega⟩
theorem c_isLike (hu : lyX uc u) (h1 : CG uc um o1 r1) (h2 : CG uc um o2 r2) (ho1 : 116 ≤ o1) (ho2 : 116 ≤ o2) (hC : Cr um r1 ≤ 100) (hD : Cr um r2 ≤ 100) (hi : i < Cr um r1) (hj : j < Cr um r2) : g_X1_isLike F (o1 + 24) (nI i) (o2 + 24) (nI j) u = some (if E35 um r1 r2 i j then 1 else 0) := by
  have a1 : ∀ (o r : Nat) (k : Nat), 116 ≤ o → CG uc um o r → Cr um r ≤ 100 → k < Cr um r → g_X1_has F (o + 24) (nI k) u = some 1 := fun o r k ho h hc hk => by
    have e3 : rF u (o + 24) 3 = nI (Cr um r) := (hu.2.2 _ (by omega)).trans h.1
    unfold g_X1_has
    rw [if_neg (nI_pos (by omega)), e3, if_neg (nI_ge hk (by omega)), if_neg (show ¬ (100 : Int32) ≤ nI k from nI_ge (a := k) (b := 100) (by omega) (by decide))]
  have e26 : ∀ (o r k : Nat), 116 ≤ o → CG uc um o r → k < Cr um r → u.2.1 (o + 24 + 2) k = um.2.1 17 (100 * r + k) ∧ u.2.1 (o + 24 + 3) k = um.2.1 18 (100 * r + k) := fun o r k ho h hk => by
    rw [hu.2.1 _ (by omega), hu.2.1 _ (by omega)]
    exact ⟨(h.2 k hk).2.1, (h.2 k hk).2.2⟩
  unfold g_X1_isLike E35
  rw [a1 o1 r1 i ho1 h1 hC hi, ob_i, if_neg one_n0, a1 o2 r2 j ho2 h2 hD hj, ob_i, if_neg one_n0, ck_t (inb_nI (by omega) (by decide)), ck_t (inb_nI (by omega) (by decide)), ck_t (inb_nI (by omega) (by decide)), ck_t (inb_nI (by omega) (by decide)), rA_nI (by omega), rA_nI (by omega), rA_nI (by omega), rA_nI (by omega), (e26 o1 r1 i ho1 h1 hi).1, (e26 o1 r1 i ho1 h1 hi).2, (e26 o2 r2 j ho2 h2 hj).1, (e26 o2 r2 j ho2 h2 hj).2]
  by_cases q : um.2.1 17 (100 * r1 + i) = um.2.1 17 (100 * r2 + j)
  · rw [if_pos q]
    by_cases z : um.2.1 18 (100 * r1 + i) = um.2.1 18 (100 * r2 + j)
    · rw [if_pos z, if_pos (by simp [q, z])]
    · rw [if_neg z, if_neg (by simp [z])]
  · rw [if_neg q, if_neg (by simp [q])]
/-- the rows of the table from row i on, row i from m on -/
def rT (v : rg_U) (L : Nat → Nat → Nat) (C D i m : Nat) : Prop := (∀ i' j', i < i' → i' ≤ C → j' ≤ D → v.2.1 (10 + i') j' = nI (L i' j')) ∧ ∀ j', m ≤ j' → j' ≤ D → v.2.1 (10 + i) j' = nI (L i j')
/-- that the class's like calls are E -/
def LK (uc : rg_U) (o1 o2 C D F : Nat) (E : Nat → Nat → Bool) : Prop := C ≤ 100 ∧ D ≤ 100 ∧ wkG uc ∧ ∀ u i j, lyX uc u → i < C → j < D → g_X1_isLike F (o1 + 24) (nI i) (o2 + 24) (nI j) u = some (if E i j then 1 else 0)
theorem c_cell {E : Nat → Nat → Bool} (hk : LK uc o1 o2 C D F E) (hv : lyX uc v) (hi : i < C) (hj : j < D) (hT : rT v (lL E C D) C D i (j + 1)) : ∃ w, g_X0_countPairs_l37 F (o1 + 24) (o2 + 24) (nI D) (nI i) (nI j) v = some (.inl (nI j + (-1), w)) ∧ lyX uc w ∧ rT w (lL E C D) C D i j := by
  obtain ⟨hC, hD, hG, hE⟩ := hk
  have hl : ∀ a b, lL E C D a b ≤ 100 := fun a b => Nat.le_trans lL_le hC
  have q1 := c_rowQ hG hv (show i + 1 < 101 by omega)
  have q0 := c_rowQ hG hv (show i < 101 by omega)
  have w1 := rw_i (show i + 1 < 101 by omega)
  have w0 := rw_i (show i < 101 by omega)
  have b1 : inb (nI (i + 1)) 101 := inb_nI (by omega) (by decide)
  have b0 : inb (nI i) 101 := inb_nI (by omega) (by decide)
  have d1 : inb (nI (j + 1)) 101 := inb_nI (by omega) (by decide)
  have d0 : inb (nI j) 101 := inb_nI (by omega) (by decide)
  have fin : g_X0_countPairs_l37 F (o1 + 24) (o2 + 24) (nI D) (nI i) (nI j) v = some (.inl (nI j + (-1), rg_R v (10 + i) j (nI (lL E C D i j)))) := by
    have e103 : ∀ a b : Nat, a ≤ 200 → b ≤ 200 → max a b = lL E C D i j → g_X0_countPairs_j103 F (o1 + 24) (o2 + 24) (nI D) (nI i) (nI j) (nI a) (nI b) v = some (.inl (nI j + (-1), rg_R v (10 + i) j (nI (lL E C D i j)))) := fun a b ha hb e => by
      unfold g_X0_countPairs_j103
      rw [ck_t b0, q0, om_i, ck_t w0, ck_t d0, lt1_i, imax_nI (by omega) (by omega), e, sA_nI (by omega)]
    unfold g_X0_countPairs_l37
    rw [if_neg (nI_pos (by omega)), nI_1, nI_1, ck_t b1, q1, om_i, ck_t w1, ck_t d0, ck_t b0, q0, om_i, ck_t w0, ck_t d1, hE v i j hv hi hj, ob_i, rA_nI (by omega), rA_nI (by omega), hT.1 (i + 1) j (by omega) (by omega) (by omega), hT.2 (j + 1) (Nat.le_refl _) (by omega), imax_nI (by have := hl (i + 1) j; omega) (by have := hl i (j + 1); omega)]
    have hs := lL_s (E := E) hi hj
    have l1 := hl (i + 1) j
    have l2 := hl i (j + 1)
    have l3 := hl (i + 1) (j + 1)
    by_cases z : E i j = true
    · rw [if_pos z] at hs
      rw [if_pos z, if_neg one_n0, ck_t b1, om_i, ck_t w1, ck_t d1, rA_nI (by omega), hT.1 (i + 1) (j + 1) (by omega) (by omega) (by omega), show (1 : Int32) + nI (lL E C D (i + 1) (j + 1)) = nI (1 + lL E C D (i + 1) (j + 1)) from nI_add 1 _]
      exact e103 _ _ (by omega) (by omega) hs.symm
    · rw [if_neg z] at hs
      rw [if_neg z, if_pos rfl]
      exact e103 _ 0 (by omega) (by omega) hs.symm
  refine ⟨_, fin, ly_R hv (by omega), fun i' j' a1 a2 a3 => ?_, fun j' a1 a2 => ?_⟩
  · rw [R_at, if_neg (by omega)]
    exact hT.1 i' j' a1 a2 a3
  · rw [R_at]
    by_cases z : j' = j
    · rw [if_pos ⟨rfl, z⟩, z]
    · rw [if_neg (by omega)]
      exact hT.2 j' (by omega) a2
theorem c_rowl {E : Nat → Nat → Bool} (hk : LK uc o1 o2 C D F E) (hi : i < C) : ∀ (m : Nat) (v : rg_U), m ≤ D → lyX uc v → rT v (lL E C D) C D i m → ∀ G, m < G → ∃ w, lp (fun (s : Int32 × rg_U) => g_X0_countPairs_l37 F (o1 + 24) (o2 + 24) (nI D) (nI i) s.1 s.2) G (nI m + (-1), v) = some w ∧ lyX uc w ∧ rT w (lL E C D) C D i 0
  | m, v, hm, hv, hT, 0, hG => by omega
  | 0, v, hm, hv, hT, G + 1, hG => by
    refine ⟨v, lp_r ?_, hv, hT⟩
    unfold g_X0_countPairs_l37
    dsimp only
    rw [if_pos (by decide)]
  | m + 1, v, hm, hv, hT, G + 1, hG => by
    obtain ⟨w, g1, g2, g3⟩ := c_cell (j := m) hk hv hi (by omega) hT
    rw [nI_dec, lp_l (body := fun (s : Int32 × rg_U) => g_X0_countPairs_l37 F (o1 + 24) (o2 + 24) (nI D) (nI i) s.1 s.2) (s := (nI m, v)) g1]
    exact c_rowl hk hi m w (by omega) g2 g3 G (by omega)
theorem c_rowsl {E : Nat → Nat → Bool} (hk : LK uc o1 o2 C D F E) (hF : 10000 < F) : ∀ (m : Nat) (v : rg_U), m ≤ C → lyX uc v → (∀ i' j', m ≤ i' → i' ≤ C → j' ≤ D → v.2.1 (10 + i') j' = nI (lL E C D i' j')) → ∀ G, m < G → ∃ w, lp (fun (s : Int32 × rg_U) => g_X0_countPairs_l15 F (o1 + 24) (o2 + 24) (nI D) s.1 s.2) G (nI m + (-1), v) = some w ∧ lyX uc w ∧ ∀ i' j', i' ≤ C → j' ≤ D → w.2.1 (10 + i') j' = nI (lL E C D i' j')
  | m, v, hm, hv, hT, 0, hG => by omega
  | 0, v, hm, hv, hT, G + 1, hG => by
    refine ⟨v, lp_r ?_, hv, fun i' j' => hT i' j' (Nat.zero_le _)⟩
    unfold g_X0_countPairs_l15
    dsimp only
    rw [if_pos (by decide)]
  | m + 1, v, hm, hv, hT, G + 1, hG => by
    obtain ⟨hC, hD, hG', hE⟩ := id hk
    have hv1 : lyX uc (rg_R v (10 + m) D 0) := ly_R hv (by omega)
    obtain ⟨w, g1, g2, g3⟩ := c_rowl (i := m) hk (by omega) D (rg_R v (10 + m) D 0) (Nat.le_refl _) hv1 ⟨fun i' j' a1 a2 a3 => by rw [R_at, if_neg (by omega)]; exact hT i' j' a1 a2 a3, fun j' a1 a2 => by rw [R_at, if_pos ⟨rfl, by omega⟩, show j' = D by omega, lL_D (Nat.le_refl _)]; rfl⟩ F (by omega)
    have hb : g_X0_countPairs_l15 F (o1 + 24) (o2 + 24) (nI D) (nI m) v = some (.inl (nI m + (-1), w)) := by
      unfold g_X0_countPairs_l15
      rw [if_neg (nI_pos (by omega)), ck_t (inb_nI (by omega) (by decide)), c_rowQ hG' hv (by omega), om_i, ck_t (rw_i (by omega)), ck_t (inb_nI (by omega) (by decide)), lt1_i, sA_nI (by omega), show nI D - 1 = nI D + (-1) from Int32.sub_eq_add_neg _ _, g1, ob_i]
    rw [nI_dec, lp_l (body := fun (s : Int32 × rg_U) => g_X0_countPairs_l15 F (o1 + 24) (o2 + 24) (nI D) s.1 s.2) (s := (nI m, v)) hb]
    refine c_rowsl hk hF m w (by omega) g2 (fun i' j' a1 a2 a3 => ?_) G (by omega)
    by_cases z : i' = m
    · rw [z]; exact g3.2 j' (Nat.zero_le _) a3
    · exact g3.1 i' j' (by omega) a2 a3
theorem c_countPairs {E : Nat → Nat → Bool} (hk : LK uc o1 o2 C D F E) (hF : 10000 < F) : ∃ w, g_X0_countPairs F (o1 + 24) (nI C) (o2 + 24) (nI D) uc = some w ∧ lyX uc w ∧ ∀ i' j', i' ≤ C → j' ≤ D → w.2.1 (10 + i') j' = nI (lL E C D i' j') := by
  obtain ⟨hC, hD, hG', hE⟩ := id hk
  have hv : lyX uc (sFill uc (10 + C) 101 0) := ⟨rfl, fun j hj => pm_up_n (by omega), fun _ _ => rfl⟩
  obtain ⟨w, g1, g2⟩ := c_rowsl hk hF C (sFill uc (10 + C) 101 0) (Nat.le_refl _) hv (fun i' j' a1 a2 a3 => by
    rw [show i' = C by omega, lL_C (Nat.le_refl _)]
    show va_up uc.2.1 (10 + C) (fun i => if i < 101 then 0 else uc.2.1 (10 + C) i) (10 + C) j' = _
    unfold va_up
    rw [if_pos rfl]
    exact if_pos (by omega)) F (by omega)
  refine ⟨w, ?_, g2⟩
  unfold g_X0_countPairs
  rw [ck_t (inb_nI (by omega) (by decide)), c_rowQ hG' ly_r (by omega), om_i, ck_t (rw_i (by omega)), g_fill_eq (by decide) (by omega), ob_i, show nI C - 1 = nI C + (-1) from Int32.sub_eq_add_neg _ _, g1, ob_i]
/-! the pairs -/
theorem lL_m1 {E : Nat → Nat → Bool} : lL E C D (i + 1) j ≤ lL E C D i j := by
  rcases Nat.lt_or_ge i C with h1 | h1
  · rcases Nat.lt_or_ge j D with h2 | h2
    · have := lL_s (E := E) h1 h2
      omega
    · rw [lL_D h2]; omega
  · rw [lL_C (show C ≤ i + 1 by omega)]; omega
theorem lL_m2 {E : Nat → Nat → Bool} : lL E C D i (j + 1) ≤ lL E C D i j := by
  rcases Nat.lt_or_ge i C with h1 | h1
  · rcases Nat.lt_or_ge j D with h2 | h2
    · have := lL_s (E := E) h1 h2
      omega
    · rw [lL_D (show D ≤ j + 1 by omega)]; omega
  · rw [lL_C h1]; omega
theorem lL_mi {E : Nat → Nat → Bool} : ∀ a, lL E C D (i + a) j ≤ lL E C D i j
  | 0 => Nat.le_refl _
  | a + 1 => Nat.le_trans (lL_m1 (i := i + a)) (lL_mi a)
theorem lL_mj {E : Nat → Nat → Bool} : ∀ b, lL E C D i (j + b) ≤ lL E C D i j
  | 0 => Nat.le_refl _
  | b + 1 => Nat.le_trans (lL_m2 (j := j + b)) (lL_mj b)
theorem lL_hit {E : Nat → Nat → Bool} {a b : Nat} (h1 : i ≤ a) (h2 : j ≤ b) (ha : a < C) (hb : b < D) (hE : E a b = true) : 1 + lL E C D (a + 1) (b + 1) ≤ lL E C D i j := by
  have hs := lL_s (E := E) ha hb
  rw [if_pos hE] at hs
  have m1 := lL_mi (E := E) (C := C) (D := D) (i := i) (j := j) (a - i)
  have m2 := lL_mj (E := E) (C := C) (D := D) (i := a) (j := j) (b - j)
  rw [show i + (a - i) = a by omega] at m1
  rw [show j + (b - j) = b by omega] at m2
  omega
theorem lL_no {E : Nat → Nat → Bool} (hi : i < C) (h : ∀ b, j ≤ b → b < D → ¬ hit E C D (lL E C D i j) i b) : lL E C D (i + 1) j = lL E C D i j := by
  have m := lL_m1 (E := E) (C := C) (D := D) (i := i) (j := j)
  rcases Nat.eq_zero_or_pos (lL E C D i j) with z | z
  · omega
  · obtain ⟨a, b, y1, y2, y3, y4, y5, y6⟩ := lL_ex (E := E) (C := C) (D := D) _ i j (Nat.le_refl _) z
    by_cases w : a = i
    · subst w
      exact absurd ⟨y5, y6⟩ (h b y3 y4)
    · have := lL_hit (E := E) (C := C) (D := D) (i := i + 1) (j := j) (by omega) y3 y2 y4 y5
      omega
/-- a row is looked through from column j on -/
theorem c_scan {E : Nat → Nat → Bool} {j0 : Nat} (hk : LK uc o1 o2 C D F E) (hv : lyX uc v) (hT : ∀ i' j', i' ≤ C → j' ≤ D → v.2.1 (10 + i') j' = nI (lL E C D i' j')) (hi : i < C) (hj0 : j0 ≤ D) : ∀ (f j : Nat), D - j ≤ f → j0 ≤ j → j ≤ D → ∀ G, f < G → ∃ b, lp (fun (s : Int32) => g_X0_choosePairs_l30 F (o1 + 24) (o2 + 24) (nI C) (nI D) (nI j0) (nI i) v s) G (nI j) = some (nI b) ∧ j ≤ b ∧ b ≤ D ∧ (b < D → hit E C D (lL E C D i j0) i b) ∧ ∀ b', j ≤ b' → b' < b → ¬ hit E C D (lL E C D i j0) i b'
  | f, j, hf, h1, h2, 0, hG => by omega
  | f, j, hf, h1, h2, G + 1, hG => by
    obtain ⟨hC, hD, hG', hE⟩ := id hk
    have hl : ∀ a b, lL E C D a b ≤ 100 := fun a b => Nat.le_trans lL_le hC
    by_cases q : j < D
    · have hb : g_X0_choosePairs_l30 F (o1 + 24) (o2 + 24) (nI C) (nI D) (nI j0) (nI i) v (nI j) = if E i j = true ∧ 1 + lL E C D (i + 1) (j + 1) = lL E C D i j0 then some (.inr (nI j)) else some (.inl (nI (j + 1))) := by
        unfold g_X0_choosePairs_l30 g_X0_choosePairs_j78
        rw [if_neg (nI_ge q (by omega)), hE v i j hv hi q, ob_i, nI_1, nI_1]
        by_cases z : E i j = true
        · rw [if_pos z, if_neg one_n0, ck_t (inb_nI (by omega) (by decide)), c_rowQ hG' hv (by omega), om_i, ck_t (rw_i (by omega)), ck_t (inb_nI (by omega) (by decide)), ck_t (inb_nI (by omega) (by decide)), c_rowQ hG' hv (by omega), om_i, ck_t (rw_i (by omega)), ck_t (inb_nI (by omega) (by decide)), rA_nI (by omega), rA_nI (by omega), hT _ _ (by omega) (by omega), hT _ _ (by omega) hj0, show (1 : Int32) + nI (lL E C D (i + 1) (j + 1)) = nI (1 + lL E C D (i + 1) (j + 1)) from nI_add 1 _]
          by_cases y : 1 + lL E C D (i + 1) (j + 1) = lL E C D i j0
          · rw [if_pos (by rw [y]), if_pos ⟨z, y⟩]
          · rw [if_neg (fun w => y (nI_inj (by have := hl (i + 1) (j + 1); omega) (by have := hl i j0; omega) w)), if_neg (fun w => y w.2)]
        · rw [if_neg z, if_pos rfl, if_neg (fun w => z w.1)]
      by_cases z : E i j = true ∧ 1 + lL E C D (i + 1) (j + 1) = lL E C D i j0
      · rw [if_pos z] at hb
        exact ⟨j, lp_r hb, Nat.le_refl _, h2, fun _ => z, fun b' a1 a2 => by omega⟩
      · rw [if_neg z] at hb
        match f, hf, hG with
        | 0, hf, hG => omega
        | f + 1, hf, hG =>
        obtain ⟨b, g1, g2, g3, g4, g5⟩ := c_scan hk hv hT hi hj0 f (j + 1) (by omega) (by omega) (by omega) G (by omega)
        refine ⟨b, (lp_l (body := fun (s : Int32) => g_X0_choosePairs_l30 F (o1 + 24) (o2 + 24) (nI C) (nI D) (nI j0) (nI i) v s) (s := nI j) hb).trans g1, by omega, g3, g4, fun b' a1 a2 => ?_⟩
        by_cases w : b' = j
        · rw [w]; exact z
        · exact g5 b' (by omega) a2
    · have hb : g_X0_choosePairs_l30 F (o1 + 24) (o2 + 24) (nI C) (nI D) (nI j0) (nI i) v (nI j) = some (.inr (nI j)) := by
        unfold g_X0_choosePairs_l30
        rw [if_pos (nI_le (by omega) (by omega))]
      exact ⟨j, lp_r hb, Nat.le_refl _, h2, fun w => absurd w q, fun b' a1 a2 => by omega⟩
theorem sub_s1 {a b n : Nat} (h : a - b ≤ n + 1) : a - (b + 1) ≤ n := by omega
/-- what is chosen so far -/
def chS (v : rg_U) (E : Nat → Nat → Bool) (C D c : Nat) : Prop := rF v 8 3 = nI c ∧ ∀ k, k < c → ∃ a b, v.2.1 111 k = nI a ∧ v.2.1 112 k = nI b ∧ prR E C D k a b
theorem c_choose {E : Nat → Nat → Bool} (hk : LK uc o1 o2 C D F E) (hF : 10000 < F) : ∀ (f i0 i j c : Nat) (v : rg_U), C - i ≤ f → lyX uc v → (∀ i' j', i' ≤ C → j' ≤ D → v.2.1 (10 + i') j' = nI (lL E C D i' j')) → i0 ≤ i → i ≤ C → j ≤ D → lL E C D i j + c = lL E C D 0 0 → lL E C D i j = lL E C D i0 j → chS v E C D c → ((c = 0 ∧ i0 = 0 ∧ j = 0) ∨ ∃ a b c', c = c' + 1 ∧ prR E C D c' a b ∧ i0 = a + 1 ∧ j = b + 1) → (∀ a' b', i0 ≤ a' → a' < i → j ≤ b' → b' < D → ¬ hit E C D (lL E C D i0 j) a' b') → ∀ G, f < G → ∃ w, lp (fun (s : Int32 × Int32 × rg_U) => g_X0_choosePairs_l11 F (o1 + 24) (o2 + 24) (nI C) (nI D) s.1 s.2.1 s.2.2) G (nI j, nI i, v) = some w ∧ lyX uc w ∧ chS w E C D (lL E C D 0 0)
  | f, i0, i, j, c, v, hf, hv, hT, h0, h1, h2, h3, h4, h5, h6, h7, 0, hG => by omega
  | f, i0, i, j, c, v, hf, hv, hT, h0, h1, h2, h3, h4, h5, h6, h7, G + 1, hG => by
    obtain ⟨hC, hD, hG', hE⟩ := id hk
    have hN : lL E C D 0 0 ≤ 100 := Nat.le_trans lL_le hC
    by_cases q : i < C
    · by_cases q2 : c < 100
      · match f, hf, hG with
        | 0, hf, hG => omega
        | f + 1, hf, hG =>
        obtain ⟨b, g1, g2, g3, g4, g5⟩ := c_scan hk hv hT q h2 (D - j) j (Nat.le_refl _) (Nat.le_refl _) h2 F (by omega)
        have hb : g_X0_choosePairs_l11 F (o1 + 24) (o2 + 24) (nI C) (nI D) (nI j) (nI i) v = if b < D then some (.inl (nI (b + 1), nI (i + 1), sF (rg_R (rg_R v 111 c (nI i)) 112 c (nI b)) 8 3 (nI (c + 1)))) else some (.inl (nI j, nI (i + 1), v)) := by
          unfold g_X0_choosePairs_l11
          rw [if_neg (nI_ge q (by omega)), h5.1, if_neg (show ¬ (100 : Int32) ≤ nI c from nI_ge (a := c) (b := 100) q2 (by decide)), g1, ob_i]
          unfold g_X0_choosePairs_j84 g_X0_choosePairs_j129
          by_cases z : b < D
          · have e3 : rF (rg_R v 111 c (nI i)) 8 3 = nI c := h5.1
            have e4 : rF (rg_R (rg_R v 111 c (nI i)) 112 c (nI b)) 8 3 = nI c := h5.1
            rw [if_neg (nI_ge z (by omega)), if_pos z, h5.1, ck_t (inb_nI (by omega) (by decide)), lt1_i, sA_nI (by omega), e3, ck_t (inb_nI (by omega) (by decide)), lt1_i, sA_nI (by omega), lt1_i, e4, nI_1, nI_1, nI_1]
          · rw [if_pos (nI_le (by omega) (by omega)), if_neg z, nI_1]
        by_cases z : b < D
        · rw [if_pos z] at hb
          have hh := g4 z
          have hfp : fpR E C D i0 j i b := by
            refine ⟨h0, q, g2, z, by rw [← h4]; exact hh, fun a' b' a1 a2 a3 a4 => ?_⟩
            unfold lxl at a4
            rcases a4 with a4 | ⟨a4, a5⟩
            · exact h7 a' b' a1 a4 a2 a3
            · rw [a4, ← h4]; exact g5 b' a2 a5
          have hpr : prR E C D c i b := by
            rcases h6 with ⟨z1, z2, z3⟩ | ⟨a', b', c', z1, z2, z3, z4⟩
            · subst z1 z2 z3; exact hfp
            · subst z1 z3 z4; exact ⟨a', b', z2, hfp⟩
          obtain ⟨w, k1, k2, k3⟩ := c_choose hk hF f (i + 1) (i + 1) (b + 1) (c + 1) (sF (rg_R (rg_R v 111 c (nI i)) 112 c (nI b)) 8 3 (nI (c + 1))) (by omega) (ly_F (ly_R (ly_R hv (by omega)) (by omega))) (fun i' j' a1 a2 => by
            show (rg_R (rg_R v 111 c (nI i)) 112 c (nI b)).2.1 (10 + i') j' = _
            rw [R_at, if_neg (by omega), R_at, if_neg (by omega)]
            exact hT i' j' a1 a2) (Nat.le_refl _) (by omega) (by omega) (by have := hh.2; omega) rfl ⟨sF_y, fun k hk' => by
            show ∃ a b', (rg_R (rg_R v 111 c (nI i)) 112 c (nI b)).2.1 111 k = nI a ∧ (rg_R (rg_R v 111 c (nI i)) 112 c (nI b)).2.1 112 k = nI b' ∧ prR E C D k a b'
            by_cases y : k = c
            · subst y
              exact ⟨i, b, by rw [R_at, if_neg (by omega), R_at, if_pos ⟨rfl, rfl⟩], by rw [R_at, if_pos ⟨rfl, rfl⟩], hpr⟩
            · obtain ⟨a, b', y1, y2, y3⟩ := h5.2 k (by omega)
              exact ⟨a, b', by rw [R_at, if_neg (by omega), R_at, if_neg (by omega)]; exact y1, by rw [R_at, if_neg (by omega), R_at, if_neg (by omega)]; exact y2, y3⟩⟩ (Or.inr ⟨i, b, c, rfl, hpr, rfl, rfl⟩) (fun a' b' a1 a2 => by omega) G (by omega)
          exact ⟨w, (lp_l (body := fun (s : Int32 × Int32 × rg_U) => g_X0_choosePairs_l11 F (o1 + 24) (o2 + 24) (nI C) (nI D) s.1 s.2.1 s.2.2) (s := (nI j, nI i, v)) hb).trans k1, k2, k3⟩
        · rw [if_neg z] at hb
          have hno : ∀ b', j ≤ b' → b' < D → ¬ hit E C D (lL E C D i j) i b' := fun b' a1 a2 => g5 b' a1 (by omega)
          have e1 := lL_no (E := E) (D := D) (j := j) q hno
          obtain ⟨w, k1, k2, k3⟩ := c_choose hk hF f i0 (i + 1) j c v (sub_s1 hf) hv hT (by omega) (by omega) h2 (by omega) (by omega) h5 h6 (fun a' b' a1 a2 a3 a4 => by
            by_cases y : a' = i
            · rw [y, ← h4]; exact hno b' a3 a4
            · exact h7 a' b' a1 (by omega) a3 a4) G (by omega)
          exact ⟨w, (lp_l (body := fun (s : Int32 × Int32 × rg_U) => g_X0_choosePairs_l11 F (o1 + 24) (o2 + 24) (nI C) (nI D) s.1 s.2.1 s.2.2) (s := (nI j, nI i, v)) hb).trans k1, k2, k3⟩
      · have hb : g_X0_choosePairs_l11 F (o1 + 24) (o2 + 24) (nI C) (nI D) (nI j) (nI i) v = some (.inr v) := by
          unfold g_X0_choosePairs_l11
          rw [if_neg (nI_ge q (by omega)), h5.1, if_pos (show (100 : Int32) ≤ nI c from nI_le (a := 100) (b := c) (by omega) (by omega))]
        exact ⟨v, lp_r hb, hv, by rw [show lL E C D 0 0 = c by omega]; exact h5⟩
    · have hb : g_X0_choosePairs_l11 F (o1 + 24) (o2 + 24) (nI C) (nI D) (nI j) (nI i) v = some (.inr v) := by
        unfold g_X0_choosePairs_l11
        rw [if_pos (nI_le (by omega) (by omega))]
      have e0 := lL_C (E := E) (D := D) (j := j) (show C ≤ i by omega)
      exact ⟨v, lp_r hb, hv, by rw [show lL E C D 0 0 = c by omega]; exact h5⟩
theorem c_lay {E : Nat → Nat → Bool} (hk : LK uc o1 o2 C D F E) (e1 : rF uc (o1 + 24) 3 = nI C) (e2 : rF uc (o2 + 24) 3 = nI D) (hF : 10000 < F) : ∃ w, g_X0_lay F (o1 + 24) (o2 + 24) uc = some w ∧ lyX uc w ∧ chS w E C D (lL E C D 0 0) := by
  obtain ⟨hC, hD, hG', hE⟩ := id hk
  have im : ∀ n, n ≤ 100 → imin (nI n) 100 = nI n := fun n hn => by
    unfold imin
    rw [if_neg (show ¬ (100 : Int32) < nI n from nI_nlt (a := 100) (b := n) hn (by decide))]
  obtain ⟨w1, a1, a2, a3⟩ := c_countPairs hk hF
  obtain ⟨w, k1, k2, k3⟩ := c_choose hk hF C 0 0 0 0 (sF w1 8 3 0) (by omega) (ly_F a2) a3 (Nat.le_refl _) (Nat.zero_le _) (Nat.zero_le _) rfl rfl ⟨sF_y, fun k hk' => by omega⟩ (Or.inl ⟨rfl, rfl, rfl⟩) (fun a' b' x1 x2 => by omega) F (by omega)
  refine ⟨w, ?_, k2, k3⟩
  unfold g_X0_lay g_X0_choosePairs
  rw [e1, e2, im C hC, im D hD, a1, ob_i, lt1_i]
  rw [show nI 0 = (0 : Int32) from rfl] at k1
  rw [k1, ob_i, ob_i]
theorem LK_i (hX : wkG uc) (h1 : CG uc um o1 r1) (h2 : CG uc um o2 r2) (ho1 : 116 ≤ o1) (ho2 : 116 ≤ o2) (hC : Cr um r1 ≤ 100) (hD : Cr um r2 ≤ 100) : LK uc o1 o2 (Cr um r1) (Cr um r2) F (E35 um r1 r2) := ⟨hC, hD, hX, fun u i j hu hi hj => c_isLike hu h1 h2 ho1 ho2 hC hD hi hj⟩
/-- a run by its number -/
theorem Rel_at (h : RelC pB uc um) (hm : okM um K W) : ((¬ ∃ r, act um K r ∧ x = xr r) ∧ g_X9_numbered F x uc = some none) ∨ ∃ r, act um K r ∧ x = xr r ∧ r < 5 ∧ g_X9_numbered F x uc = some (some (oR r)) ∧ RR pB uc um (oR r) r ∧ runOK um r := by
  obtain ⟨n1, n2⟩ := Rel_num (F := F) (x := x) h hm
  have hK := hm.1.1.2.1
  by_cases q : x = -1
  · have e := n1 q
    rcases hm.1.2.1.1 with w | w
    · rw [w, if_neg (by decide)] at e
      refine Or.inl ⟨?_, e⟩
      rintro ⟨r, a | ⟨a1, a2⟩, a3⟩
      · unfold xr at a3
        rw [if_neg (by omega), q] at a3
        exact nI_m1 (by omega) a3.symm
      · rw [w] at a2
        exact absurd a2 (by decide)
    · rw [w, if_pos rfl] at e
      have ha : act um K 4 := Or.inr ⟨rfl, w⟩
      exact Or.inr ⟨4, ha, q, by omega, e, Rel_run h hm ha, hm.1.2.2.2.2.1 4 ha⟩
  · obtain ⟨n3, n4⟩ := n2 q
    by_cases w : ∃ r, r < K ∧ x = nI r
    · obtain ⟨r, hr, rfl⟩ := w
      have ha : act um K r := Or.inl hr
      exact Or.inr ⟨r, ha, by unfold xr; rw [if_neg (by omega)], by omega, n3 r hr rfl, Rel_run h hm ha, hm.1.2.2.2.2.1 r ha⟩
    · refine Or.inl ⟨?_, n4 w⟩
      rintro ⟨r, a | ⟨a1, a2⟩, a3⟩
      · unfold xr at a3
        rw [if_neg (by omega)] at a3
        exact w ⟨r, a, a3⟩
      · unfold xr at a3
        rw [if_pos a1] at a3
        exact q a3
theorem xr_u {r r' : Nat} (h : r < 5) (h' : r' < 5) (e : xr r = xr r') : r = r' := by
  unfold xr at e
  by_cases z : r = 4
  · rw [if_pos z] at e
    by_cases z' : r' = 4
    · omega
    · rw [if_neg z'] at e
      exact absurd e.symm (nI_m1 (by omega))
  · rw [if_neg z] at e
    by_cases z' : r' = 4
    · rw [if_pos z'] at e
      exact absurd e (nI_m1 (by omega))
    · rw [if_neg z'] at e
      exact nI_inj (by omega) (by omega) e
theorem sr_align (hF : 10000 < F) : SB pB (g_X9_align F x y) (g_X10_align F x y) := fun uc um h => by
  obtain ⟨K, W, r1, r2, -⟩ := id h
  have hK := r1.1.1.2.1
  unfold g_X9_align
  have bad : ¬ ((∃ r, act um K r ∧ x = xr r) ∧ ∃ r, act um K r ∧ y = xr r) → ∃ zm, g_X10_align F x y um = some zm ∧ (-2 : Int32) = zm.1 ∧ RelC pB uc zm.2 := fun hb => by
    rcases m_align (F := F) (x := x) (y := y) r1 hF with ⟨-, q⟩ | ⟨a, b, w, a1, a2, a3, a4, -⟩
    · exact ⟨_, q, rfl, h⟩
    · exact absurd ⟨⟨a, a1, a2⟩, b, a3, a4⟩ hb
  rcases Rel_at (F := F) (x := x) h r1 with ⟨n1, e1⟩ | ⟨p, p1, p2, p3, e1, p4, p5⟩
  · obtain ⟨zm, b1, b2, b3⟩ := bad (fun w => n1 w.1)
    refine ⟨(-2, uc), zm, ?_, b1, b2, b3⟩
    rw [e1, ob_i, om_0]
    rcases Rel_at (F := F) (x := y) h r1 with ⟨n2, e2⟩ | ⟨q, q1, q2, q3, e2, q4, q5⟩
    · rw [e2, ob_i, om_0]
    · rw [e2, ob_i, om_i, ck_t (oR_rn q3)]
  · rcases Rel_at (F := F) (x := y) h r1 with ⟨n2, e2⟩ | ⟨q, q1, q2, q3, e2, q4, q5⟩
    · obtain ⟨zm, b1, b2, b3⟩ := bad (fun w => n2 w.2)
      refine ⟨(-2, uc), zm, ?_, b1, b2, b3⟩
      rw [e1, ob_i, om_i, ck_t (oR_rn p3), e2, ob_i, om_0]
    · rcases m_align (F := F) (x := x) (y := y) r1 hF with ⟨w, -⟩ | ⟨a, b, w, a1, a2, a3, a4, g, ce, ok⟩
      · exact absurd ⟨⟨p, p1, p2⟩, q, q1, q2⟩ w
      · have ea : a = p := xr_u (act5 hK a1) p3 (a2.symm.trans p2)
        have eb : b = q := xr_u (act5 hK a3) q3 (a4.symm.trans q2)
        subst ea eb
        obtain ⟨v, k1, k2, k3⟩ := c_lay (F := F) (LK_i r2.2 p4.2.2.1 q4.2.2.1 oR_ge oR_ge p5.2.2.2.2.2.2.2.2.1 q5.2.2.2.2.2.2.2.2.1) p4.2.2.1.1 q4.2.2.1.1 hF
        refine ⟨(nI (lL (E35 um a b) (Cr um a) (Cr um b) 0 0), v), _, ?_, g, rfl, Rel_e (Rel_ly h k2) r1 ce ok⟩
        rw [e1, ob_i, om_i, ck_t (oR_rn p3), e2, ob_i, om_i, ck_t (oR_rn q3), k1, ob_i, k3.1]
end YK
end W_87
