/-! the class and the reference: state, done, changed -/
section YH
variable {pB : Prop} {F K W : Nat} {uc um uc' um' : rg_U} {x y z v : Int32}
theorem isw_iff : g_X9_isStateWhat y = 0 ↔ ¬ stW y := by
  unfold g_X9_isStateWhat g_X9_isStateWhat_j9 stW
  rw [in_0, in_0]
  simp only [Int32.lt_iff_toInt_lt, Int32.le_iff_toInt_le]
  have e4 : (4 : Int32).toInt = 4 := rfl
  have e10 : (10 : Int32).toInt = 10 := rfl
  have e17 : (17 : Int32).toInt = 17 := rfl
  have e18 : (18 : Int32).toInt = 18 := rfl
  have e0 : (0 : Int32).toInt = 0 := rfl
  rw [e4, e10, e17, e18, e0]
  have n1 : ¬ (1 : Int32) = 0 := by decide
  by_cases a : y.toInt < 0
  · rw [if_pos a, if_pos (by omega)]
    exact ⟨fun _ => by omega, fun _ => rfl⟩
  · rw [if_neg a]
    by_cases b : y.toInt ≤ 4
    · rw [if_pos b]
      exact ⟨fun w => absurd w n1, fun w => absurd (show ¬ ¬ (0 ≤ y.toInt ∧ y.toInt ≤ 4) by omega) (fun w2 => w (Or.inl w2))⟩
    · rw [if_neg b]
      by_cases c : y.toInt < 10
      · rw [if_pos c]
        exact ⟨fun _ => by omega, fun _ => rfl⟩
      · rw [if_neg c]
        by_cases d : 18 ≤ y.toInt
        · rw [if_pos d]
          exact ⟨fun _ => by omega, fun _ => rfl⟩
        · rw [if_neg d]
          exact ⟨fun w => absurd w n1, fun w => absurd (show ¬ ¬ (10 ≤ y.toInt ∧ y.toInt ≤ 17) by omega) (fun w2 => w (Or.inr w2))⟩
theorem sr_state (hF : 10000 < F) : SB pB (g_X9_state F x y) (g_X10_state F x y) := fun uc um h => by
  obtain ⟨K, W, r1, -⟩ := id h
  have h0 := Rel_zero h
  have m0 : okM (sF um 0 35 0) K W := okM_34 (by omega) r1
  have eA : aR (sF um 0 35 0) = aR um := rfl
  unfold g_X9_state
  rw [lt1_i]
  rcases Rel_ask (F := F) h0 m0 with ⟨e5, en⟩ | ⟨ea, e5, h5, en, hR⟩
  · rw [en, ob_i, om_0]
    rcases m_state (F := F) (x := x) (y := y) r1 hF with ⟨-, q, -⟩ | ⟨t, u', -, w, -⟩
    · exact ⟨_, _, rfl, q, rfl, h0⟩
    · rw [show um.2.1 5 (aR um) = 0 from e5] at w
      exact absurd w (by decide)
  · have hro := m0.1.2.2.2.2.1 _ ea
    have hG := hro.2.2.2.2.2.2.1.1
    have hT3 := hG.2.2.2.1
    rw [eA] at *
    obtain ⟨N, hS⟩ := hR.2.2.2.2.2.2
    rw [en, ob_i, om_i, ck_t (oR_rn h5)]
    have bad : ¬ (isTm um x ∧ stW y) → ∃ zm, g_X10_state F x y um = some zm ∧ (-1000001 : Int32) = zm.1 ∧ RelC pB (sF uc 0 13 0) zm.2 := fun hb => by
      rcases m_state (F := F) (x := x) (y := y) r1 hF with ⟨-, q, -⟩ | ⟨t, u', -, w1, w2, w3, w4, -⟩
      · exact ⟨_, q, rfl, h0⟩
      · exact absurd ⟨⟨w1, t, w2, w3⟩, w4⟩ hb
    rcases x7_hasI (F := F) (x := x) hS.1 hT3 with ⟨q1, q2⟩ | ⟨t, ht, rfl, q1⟩
    · rw [q1, ob_i, if_pos rfl]
      obtain ⟨zm, b1, b2, b3⟩ := bad (fun w => q2 w.1.2)
      exact ⟨_, zm, rfl, b1, b2, b3⟩
    · rw [q1, ob_i, if_neg (by decide)]
      by_cases q2 : g_X9_isStateWhat y = 0
      · rw [if_pos q2]
        obtain ⟨zm, b1, b2, b3⟩ := bad (fun w => (isw_iff.mp q2) w.2)
        exact ⟨_, zm, rfl, b1, b2, b3⟩
      · rw [if_neg q2]
        have hst : stW y := Classical.byContradiction fun w => q2 (isw_iff.mpr w)
        rcases m_state (F := F) (x := nI t) (y := y) r1 hF with ⟨w, -⟩ | ⟨t2, u', w0, w1, w2, w3, w4, q, hok, hce⟩
        · exact absurd ⟨⟨e5, t, ht, rfl⟩, hst⟩ w
        · have et : t2 = t := nI_inj (by have : Tr um (aR um) ≤ 3000 := hT3; omega) (by omega) w3.symm
          subst et
          have hrep : g_X9_replay F (oR (aR um)) (nI t2) (sF uc 0 13 0) = some (cSc (sF uc 0 13 0) (oR (aR um)) (nI (costM (sF um 0 35 0) (aR um) t2))) := c_replay (F := F) (t := t2) hR hro ht oR_ge hF
          have hRel : RelC pB (cSc (sF uc 0 13 0) (oR (aR um)) (nI (costM (sF um 0 35 0) (aR um) t2))) u' := Rel_e (Rel_cS h0 m0 ea) ⟨core_cS m0.1, simM_cS m0.2⟩ hce hok
          have hR2 : RR pB (cSc (sF uc 0 13 0) (oR (aR um)) (nI (costM (sF um 0 35 0) (aR um) t2))) (cS (sF um 0 35 0) (aR um) (nI (costM (sF um 0 35 0) (aR um) t2))) (oR (aR um)) (aR um) := RR_cS hR (by have := oR_ge (r := aR um); omega)
          have eR : ∀ s, rpm (cS (sF um 0 35 0) (aR um) (nI (costM (sF um 0 35 0) (aR um) t2))) (aR um) s = rpm um (aR um) s := fun s => rpm_cS
          have eT : Tr (cS (sF um 0 35 0) (aR um) (nI (costM (sF um 0 35 0) (aR um) t2))) (aR um) = Tr um (aR um) := rfl
          obtain ⟨N2, hS2⟩ := hR2.2.2.2.2.2.2
          have hSI : ∀ s, s ≤ t2 → SI (cSc (sF uc 0 13 0) (oR (aR um)) (nI (costM (sF um 0 35 0) (aR um) t2))) (oR (aR um)) (fun t => (rpm um (aR um) t).1) s := fun s hs => SI_c (hS2.2.2.1 s (Nat.le_trans hs ht)) (fun _ _ => rfl) rfl rfl rfl (fun s' _ => by rw [eR])
          have hPG : PG (cSc (sF uc 0 13 0) (oR (aR um)) (nI (costM (sF um 0 35 0) (aR um) t2))) (oR (aR um)) (Pm um (aR um)) := hR.1
          obtain ⟨s1, s2, s3, -⟩ := hSI t2 (Nat.le_refl _)
          obtain ⟨⟨cn, hcn, ecn⟩, d, d8, ed, -⟩ := (rp_ok hG t2 ht).1
          have ecn' : (rpm um (aR um) t2).1 120 = nI cn := ecn
          have ed' : (rpm um (aR um) t2).1 121 = nI d := ed
          have h9 := hS2.1
          rw [hrep, ob_i]
          generalize hu1 : cSc (sF uc 0 13 0) (oR (aR um)) (nI (costM (sF um 0 35 0) (aR um) t2)) = u1 at *
          rw [show stA (Pm um (aR um)) (rpm um (aR um) t2).1 y = (if y = 0 then (rpm um (aR um) t2).1 120 else if y = 1 then (rpm um (aR um) t2).1 121 else if y = 2 then (rpm um (aR um) t2).1 130 else if y = 3 then (rpm um (aR um) t2).1 131 else if y = 4 then kindOf (Pm um (aR um)) ((rpm um (aR um) t2).1 120) else if (rpm um (aR um) t2).1 121 ≤ y - 10 then -1000001 else (rpm um (aR um) t2).1 (tn (122 + y - 10))) from rfl] at q
          by_cases y0 : y = 0
          · rw [if_pos y0] at q ⊢
            rw [x7_counter h9 hT3 ht, ob_i, s1]
            exact ⟨_, _, rfl, q, rfl, hRel⟩
          rw [if_neg y0] at q ⊢
          by_cases y1 : y = 1
          · rw [if_pos y1] at q ⊢
            rw [c_stackSize h9 hT3 ht hSI hF, ob_i]
            exact ⟨_, _, rfl, q, rfl, hRel⟩
          rw [if_neg y1] at q ⊢
          by_cases y2 : y = 2
          · rw [if_pos y2] at q ⊢
            rw [x7_outs h9 hT3 ht, ob_i, s2]
            exact ⟨_, _, rfl, q, rfl, hRel⟩
          rw [if_neg y2] at q ⊢
          by_cases y3 : y = 3
          · rw [if_pos y3] at q ⊢
            rw [x7_check h9 hT3 ht, ob_i, s3]
            exact ⟨_, _, rfl, q, rfl, hRel⟩
          rw [if_neg y3] at q ⊢
          by_cases y4 : y = 4
          · rw [if_pos y4] at q ⊢
            rw [x7_counter h9 hT3 ht, ob_i, s1]
            dsimp only
            rw [ecn', x5_kind hPG hcn, ob_i]
            rw [ecn'] at q
            exact ⟨_, _, rfl, q, rfl, hRel⟩
          rw [if_neg y4] at q ⊢
          have hy : ¬ g_X10_isIn y 10 17 = 0 := by
            rcases hst with w | w
            · exfalso
              obtain ⟨k, ek, k1, k2⟩ := in_nat w (by decide)
              have e4 : (4 : Int32).toInt = 4 := rfl
              have hk : k ≤ 4 := by omega
              rcases (show k = 0 ∨ k = 1 ∨ k = 2 ∨ k = 3 ∨ k = 4 by omega) with rfl | rfl | rfl | rfl | rfl
              · exact y0 ek
              · exact y1 ek
              · exact y2 ek
              · exact y3 ek
              · exact y4 ek
            · exact w
          obtain ⟨k, ek, k1, k2⟩ := in_nat hy (by decide)
          have e10 : (10 : Int32).toInt = 10 := rfl
          have e17 : (17 : Int32).toInt = 17 := rfl
          have hk10 : 10 ≤ k := by omega
          have hk17 : k ≤ 17 := by omega
          have es : y - 10 = nI (k - 10) := by rw [ek]; exact nI_sub (a := k) (b := 10) hk10
          have et2 : tn (122 + y - 10) = 122 + (k - 10) := by
            rw [ek, c122, show nI (122 + k) - 10 = nI (122 + k - 10) from nI_sub (a := 122 + k) (b := 10) (by omega), tnn (by omega)]
            omega
          rw [c_stackedAt (R := fun t => (rpm um (aR um) t).1) h9 hT3 ht hSI ed' d8 hF, ob_i]
          rw [et2, es, ed'] at q
          rw [es, tnn (by omega)]
          by_cases qd : d ≤ k - 10
          · rw [if_pos (nI_le qd (by omega))] at q
            rw [if_pos (Or.inr (nI_le qd (by omega)))]
            exact ⟨_, _, rfl, q, rfl, hRel⟩
          · rw [if_neg (nI_ge (by omega) (by omega))] at q
            rw [if_neg (fun w => by rcases w with w | w; exact nI_pos (by omega) w; exact nI_ge (show k - 10 < d by omega) (by omega) w)]
            exact ⟨_, _, rfl, q, rfl, hRel⟩
theorem c_done {o r t : Nat} (hR : RR pB uc um o r) (ht : t ≤ Tr um r) (hT3 : Tr um r ≤ 3000) (hF : 10000 < F) : lp (fun (s : (Int32 × Int32)) => g_X9_done_l40 F o (nI t) y uc s.1 s.2) F ((0 : Int32), (0 : Int32)) = some (nI (dnC um r y t)) := by
  obtain ⟨N, hS⟩ := hR.2.2.2.2.2.2
  have h := lp_up (body := fun (s : Int32 × Int32) => g_X9_done_l40 F o (nI t) y uc s.1 s.2) (fun k => (nI (dnC um r y k), nI k)) t (nI (dnC um r y t)) (fun k hk => by
    show g_X9_done_l40 F o (nI t) y uc (nI (dnC um r y k)) (nI k) = _
    unfold g_X9_done_l40 g_X9_done_j59
    rw [if_neg (nI_ge hk (by omega)), x7_counter hS.1 hT3 (by omega), ob_i, (hS.2.2.1 k (by omega)).1, nI_1, nI_1]
    show _ = some (Sum.inl (nI (dnC um r y k + (if (rpm um r k).1 120 = y then 1 else 0)), nI (k + 1)))
    by_cases q : (rpm um r k).1 120 = y
    · rw [if_pos q, if_pos q]
    · rw [if_neg q, if_neg q]
      rfl) (by
    show g_X9_done_l40 F o (nI t) y uc _ (nI t) = _
    unfold g_X9_done_l40
    rw [if_pos (nI_le (Nat.le_refl _) (by omega))]) F 0 (Nat.zero_le _) (by omega)
  exact h
theorem sr_done (hF : 10000 < F) : SB pB (lf1 (g_X9_done F x y)) (g_X10_done F x y) := fun uc um h => by
  obtain ⟨K, W, r1, -⟩ := id h
  have key : ∃ a zm, g_X9_done F x y uc = some a ∧ g_X10_done F x y um = some zm ∧ a = zm.1 ∧ RelC pB uc zm.2 := by
    unfold g_X9_done
    rcases Rel_ask (F := F) h r1 with ⟨e5, en⟩ | ⟨ea, e5, h5, en, hR⟩
    · rw [en, ob_i, om_0]
      rcases m_done (F := F) (x := x) (y := y) r1 hF with ⟨-, q⟩ | ⟨t, u', -, w, -⟩
      · exact ⟨_, _, rfl, q, rfl, h⟩
      · rw [e5] at w
        exact absurd w (by decide)
    · have hro := r1.1.2.2.2.2.1 _ ea
      have hT3 := hro.2.2.2.2.2.2.1.1.2.2.2.1
      obtain ⟨N, hS⟩ := hR.2.2.2.2.2.2
      rw [en, ob_i, om_i, ck_t (oR_rn h5)]
      have bad : ¬ (isTm um x ∧ ¬ g_X10_isIn y 0 64 = 0) → ∃ zm, g_X10_done F x y um = some zm ∧ (-2 : Int32) = zm.1 ∧ RelC pB uc zm.2 := fun hb => by
        rcases m_done (F := F) (x := x) (y := y) r1 hF with ⟨-, q⟩ | ⟨t, u', -, w1, w2, w3, w4, -⟩
        · exact ⟨_, q, rfl, h⟩
        · exact absurd ⟨⟨w1, t, w2, w3⟩, w4⟩ hb
      rcases x7_hasI (F := F) (x := x) hS.1 hT3 with ⟨q1, q2⟩ | ⟨t, ht, rfl, q1⟩
      · rw [q1, ob_i, if_pos rfl]
        obtain ⟨zm, b1, b2, b3⟩ := bad (fun w => q2 w.1.2)
        exact ⟨_, zm, rfl, b1, b2, b3⟩
      · rw [q1, ob_i, if_neg (by decide)]
        have hin : g_X10_isIn y 0 64 = 0 ↔ y < 0 ∨ ¬ y ≤ 64 := by
          rw [in_0, Int32.lt_iff_toInt_lt, Int32.le_iff_toInt_le, Int32.le_iff_toInt_le]
          have e0 : (0 : Int32).toInt = 0 := rfl
          constructor
          · intro w; omega
          · intro w; omega
        by_cases q3 : g_X10_isIn y 0 64 = 0
        · obtain ⟨zm, b1, b2, b3⟩ := bad (fun w => w.2 q3)
          refine ⟨-2, zm, ?_, b1, b2, b3⟩
          rcases hin.mp q3 with w | w
          · rw [if_pos w]
          · by_cases w2 : y < 0
            · rw [if_pos w2]
            · rw [if_neg w2, if_neg w]
        · have n1 : ¬ y < 0 := fun w => q3 (hin.mpr (Or.inl w))
          have n2 : y ≤ 64 := Classical.byContradiction fun w => q3 (hin.mpr (Or.inr w))
          rw [if_neg n1, if_pos n2, c_done hR ht hT3 hF, ob_i]
          rcases m_done (F := F) (x := nI t) (y := y) r1 hF with ⟨w, -⟩ | ⟨t2, u', w0, w1, w2, w3, w4, q, hok, hce⟩
          · exact absurd ⟨⟨e5, t, ht, rfl⟩, q3⟩ w
          · have et : t2 = t := nI_inj (by have : Tr um (aR um) ≤ 3000 := hT3; omega) (by omega) w3.symm
            subst et
            exact ⟨_, _, rfl, q, rfl, Rel_e h r1 hce hok⟩
  obtain ⟨a, zm, e1, e2, e3, e4⟩ := key
  exact ⟨(a, uc), zm, by unfold lf1; rw [e1, ob_i], e2, e3, e4⟩
end YH
