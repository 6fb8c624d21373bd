section W_82
-- 97zzq.read
/-! the class and the reference: state, done, changed -/
section YH
variable {pB : Prop} {F K W : Nat} {uc um uc' um' : rg_U} {x y z v : Int32}
theorem isw_iff : g_X9_isStateWhat y = 0 ↔ ¬ stW y := by
  unfold g_X9_isStateWhat g_X9_isStateWhat_j9 stW
  rw [in_0, in_0]
  simp only [Int32.lt_iff_toInt_lt, Int32.le_iff_toInt_le]
  have e4 : (4 : Int32).toInt = 4 := rfl
  have e10 : (10 : Int32).toInt = 10 := rfl
  have e17 : (17 : Int32).toInt = 17 := rfl
  have e18 : (18 : Int32).toInt = 18 := rfl
  have e0 : (0 : Int32).toInt = 0 := rfl
  rw [e4, e10, e17, e18, e0]
  have n1 : ¬ (1 : Int32) = 0 := by decide
  by_cases a : y.toInt < 0
  · rw [if_pos a, if_pos (by omega)]
    exact ⟨fun _ => by omega, fun _ => rfl⟩
  · rw [if_neg a]
    by_cases b : y.toInt ≤ 4
    · rw [if_pos b]
      exact ⟨fun w => absurd w n1, fun w => absurd (show ¬ ¬ (0 ≤ y.toInt ∧ y.toInt ≤ 4) by omega) (fun w2 => w (Or.inl w2))⟩
    · rw [if_neg b]
      by_cases c : y.toInt < 10
      · rw [if_pos c]
        exact ⟨fun _ => by omega, fun _ => rfl⟩
      · rw [if_neg c]
        by_cases d : 18 ≤ y.toInt
        · rw [if_pos d]
          exact ⟨fun _ => by omega, fun _ => rfl⟩
        · rw [if_neg d]
          exact ⟨fun w => absurd w n1, fun w => absurd (show ¬ ¬ (10 ≤ y.toInt ∧ y.toInt ≤ 17) by omega) (fun w2 => w (Or.inr w2))⟩
theorem sr_state (hF : 10000 < F) : SB pB (g_X9_state F x y) (g_X10_state F x y) := fun uc um h => by
  obtain ⟨K, W, r1, -⟩ := id h
  have h0 := Rel_zero h
  have m0 : okM (sF um 0 35 0) K W := okM_34 (by omega) r1
  have eA : aR (sF um 0 35 0) = aR um := rfl
  unfold g_X9_state
  rw [lt1_i]
  rcases Rel_ask (F := F) h0 m0 with ⟨e5, en⟩ | ⟨ea, e5, h5, en, hR⟩
  · rw [en, ob_i, om_0]
    rcases m_state (F := F) (x := x) (y := y) r1 hF with ⟨-, q, -⟩ | ⟨t, u', -, w, -⟩
    · exact ⟨_, _, rfl, q, rfl, h0⟩
    · rw [show um.2.1 5 (aR um) = 0 from e5] at w
      exact absurd w (by decide)
  · have hro := m0.1.2.2.2.2.1 _ ea
    have hG := hro.2.2.2.2.2.2.1.1
    have hT3 := hG.2.2.2.1
    rw [eA] at *
    obtain ⟨N, hS⟩ := hR.2.2.2.2.2.2
    rw [en, ob_i, om_i, ck_t (oR_rn h5)]
    have bad : ¬ (isTm um x ∧ stW y) → ∃ zm, g_X10_state F x y um = some zm ∧ (-1000001 : Int32) = zm.1 ∧ RelC pB (sF uc 0 13 0) zm.2 := fun hb => by
      rcases m_state (F := F) (x := x) (y := y) r1 hF with ⟨-, q, -⟩ | ⟨t, u', -, w1, w2, w3, w4, -⟩
      · exact ⟨_, q, rfl, h0⟩
      · exact absurd ⟨⟨w1, t, w2, w3⟩, w4⟩ hb
    rcases x7_hasI (F := F) (x := x) hS.1 hT3 with ⟨q1, q2⟩ | ⟨t, ht, rfl, q1⟩
    · rw [q1, ob_i, if_pos rfl]
      obtain ⟨zm, b1, b2, b3⟩ := bad (fun w => q2 w.1.2)
      exact ⟨_, zm, rfl, b1, b2, b3⟩
    · rw [q1, ob_i, if_neg (by decide)]
      by_cases q2 : g_X9_isStateWhat y = 0
      · rw [if_pos q2]
        obtain ⟨zm, b1, b2, b3⟩ := bad (fun w => (isw_iff.mp q2) w.2)
        exact ⟨_, zm, rfl, b1, b2, b3⟩
      · rw [if_neg q2]
        have hst : stW y := Classical.byContradiction fun w => q2 (isw_iff.mpr w)
        rcases m_state (F := F) (x := nI t) (y := y) r1 hF with ⟨w, -⟩ | ⟨t2, u', w0, w1, w2, w3, w4, q, hok, hce⟩
        · exact absurd ⟨⟨e5, t, ht, rfl⟩, hst⟩ w
        · have et : t2 = t := nI_inj (by have : Tr um (aR um) ≤ 3000 := hT3; omega) (by omega) w3.symm
          subst et
          have hrep : g_X9_replay F (oR (aR um)) (nI t2) (sF uc 0 13 0) = some (cSc (sF uc 0 13 0) (oR (aR um)) (nI (costM (sF um 0 35 0) (aR um) t2))) := c_replay (F := F) (t := t2) hR hro ht oR_ge hF
          have hRel : RelC pB (cSc (sF uc 0 13 0) (oR (aR um)) (nI (costM (sF um 0 35 0) (aR um) t2))) u' := Rel_e (Rel_cS h0 m0 ea) ⟨core_cS m0.1, simM_cS m0.2⟩ hce hok
          have hR2 : RR pB (cSc (sF uc 0 13 0) (oR (aR um)) (nI (costM (sF um 0 35 0) (aR um) t2))) (cS (sF um 0 35 0) (aR um) (nI (costM (sF um 0 35 0) (aR um) t2))) (oR (aR um)) (aR um) := RR_cS hR (by have := oR_ge (r := aR um); omega)
          have eR : ∀ s, rpm (cS (sF um 0 35 0) (aR um) (nI (costM (sF um 0 35 0) (aR um) t2))) (aR um) s = rpm um (aR um) s := fun s => rpm_cS
          have eT : Tr (cS (sF um 0 35 0) (aR um) (nI (costM (sF um 0 35 0) (aR um) t2))) (aR um) = Tr um (aR um) := rfl
          obtain ⟨N2, hS2⟩ := hR2.2.2.2.2.2.2
          have hSI : ∀ s, s ≤ t2 → SI (cSc (sF uc 0 13 0) (oR (aR um)) (nI (costM (sF um 0 35 0) (aR um) t2))) (oR (aR um)) (fun t => (rpm um (aR um) t).1) s := fun s hs => SI_c (hS2.2.2.1 s (Nat.le_trans hs ht)) (fun _ _ => rfl) rfl rfl rfl (fun s' _ => by rw [eR])
          have hPG : PG (cSc (sF uc 0 13 0) (oR (aR um)) (nI (costM (sF um 0 35 0) (aR um) t2))) (oR (aR um)) (Pm um (aR um)) := hR.1
          obtain ⟨s1, s2, s3, -⟩ := hSI t2 (Nat.le_refl _)
          obtain ⟨⟨cn, hcn, ecn⟩, d, d8, ed, -⟩ := (rp_ok hG t2 ht).1
          have ecn' : (rpm um (aR um) t2).1 120 = nI cn := ecn
          have ed' : (rpm um (aR um) t2).1 121 = nI d := ed
          have h9 := hS2.1
          rw [hrep, ob_i]
          generalize hu1 : cSc (sF uc 0 13 0) (oR (aR um)) (nI (costM (sF um 0 35 0) (aR um) t2)) = u1 at *
          rw [show stA (Pm um (aR um)) (rpm um (aR um) t2).1 y = (if y = 0 then (rpm um (aR um) t2).1 120 else if y = 1 then (rpm um (aR um) t2).1 121 else if y = 2 then (rpm um (aR um) t2).1 130 else if y = 3 then (rpm um (aR um) t2).1 131 else if y = 4 then kindOf (Pm um (aR um)) ((rpm um (aR um) t2).1 120) else if (rpm um (aR um) t2).1 121 ≤ y - 10 then -1000001 else (rpm um (aR um) t2).1 (tn (122 + y - 10))) from rfl] at q
          by_cases y0 : y = 0
          · rw [if_pos y0] at q ⊢
            rw [x7_counter h9 hT3 ht, ob_i, s1]
            exact ⟨_, _, rfl, q, rfl, hRel⟩
          rw [if_neg y0] at q ⊢
          by_cases y1 : y = 1
          · rw [if_pos y1] at q ⊢
            rw [c_stackSize h9 hT3 ht hSI hF, ob_i]
            exact ⟨_, _, rfl, q, rfl, hRel⟩
          rw [if_neg y1] at q ⊢
          by_cases y2 : y = 2
          · rw [if_pos y2] at q ⊢
            rw [x7_outs h9 hT3 ht, ob_i, s2]
            exact ⟨_, _, rfl, q, rfl, hRel⟩
          rw [if_neg y2] at q ⊢
          by_cases y3 : y = 3
          · rw [if_pos y3] at q ⊢
            rw [x7_check h9 hT3 ht, ob_i, s3]
            exact ⟨_, _, rfl, q, rfl, hRel⟩
          rw [if_neg y3] at q ⊢
          by_cases y4 : y = 4
          · rw [if_pos y4] at q ⊢
            rw [x7_counter h9 hT3 ht, ob_i, s1]
            dsimp only
            rw [ecn', x5_kind hPG hcn, ob_i]
            rw [ecn'] at q
            exact ⟨_, _, rfl, q, rfl, hRel⟩
          rw [if_neg y4] at q ⊢
          have hy : ¬ g_X10_isIn y 10 17 = 0 := by
            rcases hst with w | w
            · exfalso
              obtain ⟨k, ek, k1, k2⟩ := in_nat w (by decide)
              have e4 : (4 : Int32).toInt = 4 := rfl
              have hk : k ≤ 4 := by omega
              rcases (show k = 0 ∨ k = 1 ∨ k = 2 ∨ k = 3 ∨ k = 4 by omega) with rfl | rfl | rfl | rfl | rfl
              · exact y0 ek
              · exact y1 ek
              · exact y2 ek
              · exact y3 ek
              · exact y4 ek
            · exact w
          obtain ⟨k, ek, k1, k2⟩ := in_nat hy (by decide)
          have e10 : (10 : Int32).toInt = 10 := rfl
          have e17 : (17 : Int32).toInt = 17 := rfl
          have hk10 : 10 ≤ k := by omega
          have hk17 : k ≤ 17 := by omega
          have es : y - 10 = nI (k - 10) := by rw [ek]; exact nI_sub (a := k) (b := 10) hk10
          have et2 : tn (122 + y - 10) = 122 + (k - 10) := by
            rw [ek, c122, show nI (122 + k) - 10 = nI (122 + k - 10) from nI_sub (a := 122 + k) (b := 10) (by omega), tnn (by omega)]
            omega
          rw [c_stackedAt (R := fun t => (rpm um (aR um) t).1) h9 hT3 ht hSI ed' d8 hF, ob_i]
          rw [et2, es, ed'] at q
          rw [es, tnn (by omega)]
          by_cases qd : d ≤ k - 10
          · rw [if_pos (nI_le qd (by omega))] at q
            rw [if_pos (Or.inr (nI_le qd (by omega)))]
            exact ⟨_, _, rfl, q, rfl, hRel⟩
          · rw [if_neg (nI_ge (by omega) (by omega))] at q
            rw [if_neg (fun w => by rcases w with w | w; exact nI_pos (by omega) w; exact nI_ge (show k - 10 < d by omega) (by omega) w)]
            exact ⟨_, _, rfl, q, rfl, hRel⟩
theorem c_done {o r t : Nat} (hR : RR pB uc um o r) (ht : t ≤ Tr um r) (hT3 : Tr um r ≤ 3000) (hF : 10000 < F) : lp (fun (s : (Int32 × Int32)) => g_X9_done_l40 F o (nI t) y uc s.1 s.2) F ((0 : Int32), (0 : Int32)) = some (nI (dnC um r y t)) := by
  obtain ⟨N, hS⟩ := hR.2.2.2.2.2.2
  have h := lp_up (body := fun (s : Int32 × Int32) => g_X9_done_l40 F o (nI t) y uc s.1 s.2) (fun k => (nI (dnC um r y k), nI k)) t (nI (dnC um r y t)) (fun k hk => by
    show g_X9_done_l40 F o (nI t) y uc (nI (dnC um r y k)) (nI k) = _
    unfold g_X9_done_l40 g_X9_done_j59
    rw [if_neg (nI_ge hk (by omega)), x7_counter hS.1 hT3 (by omega), ob_i, (hS.2.2.1 k (by omega)).1, nI_1, nI_1]
    show _ = some (Sum.inl (nI (dnC um r y k + (if (rpm um r k).1 120 = y then 1 else 0)), nI (k + 1)))
    by_cases q : (rpm um r k).1 120 = y
    · rw [if_pos q, if_pos q]
    · rw [if_neg q, if_neg q]
      rfl) (by
    show g_X9_done_l40 F o (nI t) y uc _ (nI t) = _
    unfold g_X9_done_l40
    rw [if_pos (nI_le (Nat.le_refl _) (by omega))]) F 0 (Nat.zero_le _) (by omega)
  exact h
theorem sr_done (hF : 10000 < F) : SB pB (lf1 (g_X9_done F x y)) (g_X10_done F x y) := fun uc um h => by
  obtain ⟨K, W, r1, -⟩ := id h
  have key : ∃ a zm, g_X9_done F x y uc = some a ∧ g_X10_done F x y um = some zm ∧ a = zm.1 ∧ RelC pB uc zm.2 := by
    unfold g_X9_done
    rcases Rel_ask (F := F) h r1 with ⟨e5, en⟩ | ⟨ea, e5, h5, en, hR⟩
    · rw [en, ob_i, om_0]
      rcases m_done (F := F) (x := x) (y := y) r1 hF with ⟨-, q⟩ | ⟨t, u', -, w, -⟩
      · exact ⟨_, _, rfl, q, rfl, h⟩
      · rw [e5] at w
        exact absurd w (by decide)
    · have hro := r1.1.2.2.2.2.1 _ ea
      have hT3 := hro.2.2.2.2.2.2.1.1.2.2.2.1
      obtain ⟨N, hS⟩ := hR.2.2.2.2.2.2
      rw [en, ob_i, om_i, ck_t (oR_rn h5)]
      have bad : ¬ (isTm um x ∧ ¬ g_X10_isIn y 0 64 = 0) → ∃ zm, g_X10_done F x y um = some zm ∧ (-2 : Int32) = zm.1 ∧ RelC pB uc zm.2 := fun hb => by
        rcases m_done (F := F) (x := x) (y := y) r1 hF with ⟨-, q⟩ | ⟨t, u', -, w1, w2, w3, w4, -⟩
        · exact ⟨_, q, rfl, h⟩
        · exact absurd ⟨⟨w1, t, w2, w3⟩, w4⟩ hb
      rcases x7_hasI (F := F) (x := x) hS.1 hT3 with ⟨q1, q2⟩ | ⟨t, ht, rfl, q1⟩
      · rw [q1, ob_i, if_pos rfl]
        obtain ⟨zm, b1, b2, b3⟩ := bad (fun w => q2 w.1.2)
        exact ⟨_, zm, rfl, b1, b2, b3⟩
      · rw [q1, ob_i, if_neg (by decide)]
        have hin : g_X10_isIn y 0 64 = 0 ↔ y < 0 ∨ ¬ y ≤ 64 := by
          rw [in_0, Int32.lt_iff_toInt_lt, Int32.le_iff_toInt_le, Int32.le_iff_toInt_le]
          have e0 : (0 : Int32).toInt = 0 := rfl
          constructor
          · intro w; omega
          · intro w; omega
        by_cases q3 : g_X10_isIn y 0 64 = 0
        · obtain ⟨zm, b1, b2, b3⟩ := bad (fun w => w.2 q3)
          refine ⟨-2, zm, ?_, b1, b2, b3⟩
          rcases hin.mp q3 with w | w
          · rw [if_pos w]
          · by_cases w2 : y < 0
            · rw [if_pos w2]
            · rw [if_neg w2, if_neg w]
        · have n1 : ¬ y < 0 := fun w => q3 (hin.mpr (Or.inl w))
          have n2 : y ≤ 64 := Classical.byContradiction fun w => q3 (hin.mpr (Or.inr w))
          rw [if_neg n1, if_pos n2, c_done hR ht hT3 hF, ob_i]
          rcases m_done (F := F) (x := nI t) (y := y) r1 hF with ⟨w, -⟩ | ⟨t2, u', w0, w1, w2, w3, w4, q, hok, hce⟩
          · exact absurd ⟨⟨e5, t, ht, rfl⟩, q3⟩ w
          · have et : t2 = t := nI_inj (by have : Tr um (aR um) ≤ 3000 := hT3; omega) (by omega) w3.symm
            subst et
            exact ⟨_, _, rfl, q, rfl, Rel_e h r1 hce hok⟩
  obtain ⟨a, zm, e1, e2, e3, e4⟩ := key
  exact ⟨(a, uc), zm, by unfold lf1; rw [e1, ob_i], e2, e3, e4⟩
end YH
end W_82
section W_83
-- 97zzr.last
/-! the class and the reference: changed, last, watched -/
theorem cSc_0 {u : rg_U} {o : Nat} : cSc u o 0 = u := by
  have e : ∀ (w : rg_U) (j s : Nat), sF w j s (rF w j s) = w := fun w j s => by
    unfold sF rg_F rF
    have : upd w.1 (100 * j + s) (w.1 (100 * j + s)) = w.1 := by
      funext k
      by_cases q : k = 100 * j + s
      · rw [q, pk_us]
      · rw [pk_un q]
    rw [this]
  show sF (sF u o 12 (rF u o 12 + 0)) 0 13 (rF u 0 13 + 0) = u
  rw [Int32.add_zero, Int32.add_zero, e, e]
theorem cSc_add {u : rg_U} {o : Nat} {x y : Int32} (ho : 116 ≤ o) : cSc (cSc u o x) o y = cSc u o (x + y) := by
  have e1 : rF (cSc u o x) o 12 = rF u o 12 + x := by
    show (sF (sF u o 12 (rF u o 12 + x)) 0 13 (rF u 0 13 + x)).1 (100 * o + 12) = _
    rw [sF_n (by omega)]
    exact sF_y
  have e2 : rF (cSc u o x) 0 13 = rF u 0 13 + x := sF_y
  show sF (sF (cSc u o x) o 12 (rF (cSc u o x) o 12 + y)) 0 13 (rF (cSc u o x) 0 13 + y) = _
  rw [e1, e2]
  have hf : ∀ k, (sF (sF (cSc u o x) o 12 (rF u o 12 + x + y)) 0 13 (rF u 0 13 + x + y)).1 k = (cSc u o (x + y)).1 k := fun k => by
    show upd (upd (upd (upd u.1 (100 * o + 12) _) (100 * 0 + 13) _) (100 * o + 12) _) (100 * 0 + 13) _ k = upd (upd u.1 (100 * o + 12) _) (100 * 0 + 13) _ k
    by_cases q : k = 100 * 0 + 13
    · rw [q, pk_us, pk_us, Int32.add_assoc]
    · rw [pk_un q, pk_un q]
      by_cases q2 : k = 100 * o + 12
      · rw [q2, pk_us, pk_us, Int32.add_assoc]
      · rw [pk_un q2, pk_un q2, pk_un q, pk_un q2]
  exact Prod.ext (funext hf) rfl
section YI
variable {pB : Prop} {F K W o r t p q T N : Nat} {u uc um uc' um' : rg_U} {x y z v : Int32}
theorem RR_x (hR : RR pB uc um o r) (ho : 116 ≤ o) (x : Int32) : RR pB (cSc uc o x) (cS um r x) o r := RR_cS hR (by omega)
theorem runOK_cS {x : Int32} (h : runOK um r) : runOK (cS um r x) r := runOK_c (fun j _ h25 => by
  show va_up um.2.1 25 _ j = _
  exact pm_up_n h25) h
theorem c_replayX {k : Nat} (hR : RR pB uc um o r) (hro : runOK um r) (ht : t ≤ Tr um r) (ho : 116 ≤ o) (hF : 10000 < F) : g_X9_replay F o (nI t) (cSc uc o (nI k)) = some (cSc uc o (nI (k + costM um r t))) := by
  have h := c_replay (F := F) (t := t) (RR_x hR ho (nI k)) (runOK_cS hro) ht ho hF
  have e : costM (cS um r (nI k)) r t = costM um r t := rfl
  rw [e] at h
  rw [h]
  show some (cSc (cSc uc o (nI k)) o (nI (costM um r t))) = _
  rw [cSc_add ho, nI_add]
/-- a place at a time, whatever is counted -/
theorem c_readX {k : Nat} (hR : RR pB uc um o r) (ht : t ≤ Tr um r) (hp : p < 40) (hT3 : Tr um r ≤ 3000) (ho : 116 ≤ o) (hF : 10000 < F) : ∃ n, g_X6_putBy F (o + 12) (nI t) (nI p) (cSc uc o (nI k)) = some n ∧ g_X6_changesOf F (o + 12) n (cSc uc o (nI k)) = some ((rpm um r t).1 (80 + p)) := by
  obtain ⟨n, a1, -, -, a2, -⟩ := c_read (F := F) (p := p) (RR_x hR ho (nI k)) ht hp hT3 hF
  exact ⟨n, a1, by rw [a2, rpm_cS]⟩
/-! changed -/
theorem c_chl {k a n : Nat} (hR : RR pB uc um o r) (ht : t + 1 ≤ Tr um r) (hT3 : Tr um r ≤ 3000) (ho : 116 ≤ o) (hF : 10000 < F) (ha : g_X9_firstPlaceOf y = nI a) (hn : g_X9_placesOf y = nI n) (han : a + n ≤ 40) : lp (fun (s : (Int32 × Int32)) => g_X9_changed_l60 F o (nI t) y (cSc uc o (nI k)) s.1 s.2) F ((0 : Int32), (0 : Int32)) = some (chB (rpm um r t).1 (rpm um r (t + 1)).1 a n) := by
  have h := lp_up (body := fun (s : Int32 × Int32) => g_X9_changed_l60 F o (nI t) y (cSc uc o (nI k)) s.1 s.2) (fun i => (chB (rpm um r t).1 (rpm um r (t + 1)).1 a i, nI i)) n (chB (rpm um r t).1 (rpm um r (t + 1)).1 a n) (fun i hi => by
    show g_X9_changed_l60 F o (nI t) y (cSc uc o (nI k)) (chB (rpm um r t).1 (rpm um r (t + 1)).1 a i) (nI i) = _
    obtain ⟨n1, b1, b2⟩ := c_readX (F := F) (k := k) (t := t) (p := a + i) hR (by omega) (by omega) hT3 ho hF
    obtain ⟨n2, b3, b4⟩ := c_readX (F := F) (k := k) (t := t + 1) (p := a + i) hR ht (by omega) hT3 ho hF
    unfold g_X9_changed_l60 g_X9_changed_j134
    rw [hn, if_neg (nI_ge hi (by omega)), ha, nI_add, b1, ob_i, b2, ob_i, nI_1, b3, ob_i, b4, ob_i, nI_1]
    show _ = some (Sum.inl (chB (rpm um r t).1 (rpm um r (t + 1)).1 a i ||| (if (rpm um r (t + 1)).1 (80 + (a + i)) = (rpm um r t).1 (80 + (a + i)) then 0 else dx_shl 1 (nI i)), nI (i + 1)))
    by_cases w : (rpm um r t).1 (80 + (a + i)) = (rpm um r (t + 1)).1 (80 + (a + i))
    · rw [if_pos w, if_pos w.symm, Int32.or_zero]
    · rw [if_neg w, if_neg (fun w2 => w w2.symm)]) (by
    show g_X9_changed_l60 F o (nI t) y (cSc uc o (nI k)) _ (nI n) = _
    unfold g_X9_changed_l60
    rw [hn, if_pos (nI_le (Nat.le_refl _) (by omega))]) F 0 (Nat.zero_le _) (by omega)
  exact h
theorem sr_changed (hF : 10000 < F) : SB pB (g_X9_changed F x y) (g_X10_changed F x y) := fun uc um h => by
  obtain ⟨K, W, r1, -⟩ := id h
  have h0 := Rel_zero h
  have m0 : okM (sF um 0 35 0) K W := okM_34 (by omega) r1
  have eA : aR (sF um 0 35 0) = aR um := rfl
  unfold g_X9_changed
  rw [lt1_i]
  rcases Rel_ask (F := F) h0 m0 with ⟨e5, en⟩ | ⟨ea, e5, h5, en, hR⟩
  · rw [en, ob_i, om_0]
    rcases m_changed (F := F) (x := x) (y := y) r1 hF with ⟨-, q, -⟩ | ⟨t, u', -, w, -⟩
    · exact ⟨_, _, rfl, q, rfl, h0⟩
    · rw [show um.2.1 5 (aR um) = 0 from e5] at w
      exact absurd w (by decide)
  · have hro := m0.1.2.2.2.2.1 _ ea
    have hT3 := hro.2.2.2.2.2.2.1.1.2.2.2.1
    rw [eA] at *
    have hT3' : Tr um (aR um) ≤ 3000 := hT3
    obtain ⟨N, hS⟩ := hR.2.2.2.2.2.2
    have h9 : rF (sF uc 0 13 0) (oR (aR um)) 9 = nI (Tr um (aR um)) := hS.1
    have e21 : um.2.1 21 (aR um) = nI (Tr um (aR um)) := hro.2.1
    rw [en, ob_i, om_i, ck_t (oR_rn h5), h9]
    have hpw : g_X9_isPlacesWhat y = 0 ↔ g_X10_isIn y 0 1 = 0 := by
      unfold g_X9_isPlacesWhat
      rw [← cl_flag]
    have bad : ¬ ((∃ t, t < Tr um (aR um) ∧ x = nI t) ∧ ¬ g_X10_isIn y 0 1 = 0) → ∃ zm, g_X10_changed F x y um = some zm ∧ (-1000001 : Int32) = zm.1 ∧ RelC pB (sF uc 0 13 0) zm.2 := fun hb => by
      rcases m_changed (F := F) (x := x) (y := y) r1 hF with ⟨-, q, -⟩ | ⟨t, u', -, w1, w2, w3, w4, -⟩
      · exact ⟨_, q, rfl, h0⟩
      · exact absurd ⟨⟨t, w2, w3⟩, w4⟩ hb
    by_cases q1 : x < 0
    · rw [if_pos q1]
      obtain ⟨zm, b1, b2, b3⟩ := bad (fun w => by
        obtain ⟨⟨t, ht, e⟩, -⟩ := w
        rw [e] at q1
        exact nI_pos (by omega) q1)
      exact ⟨_, zm, rfl, b1, b2, b3⟩
    rw [if_neg q1]
    obtain ⟨t, ht31, rfl⟩ := nI_of q1
    by_cases q2 : t < Tr um (aR um)
    · rw [if_neg (nI_ge q2 (by omega))]
      by_cases q3 : g_X10_isIn y 0 1 = 0
      · rw [if_pos (hpw.mpr q3)]
        obtain ⟨zm, b1, b2, b3⟩ := bad (fun w => w.2 q3)
        exact ⟨_, zm, rfl, b1, b2, b3⟩
      · rw [if_neg (fun w => q3 (hpw.mp w))]
        rcases m_changed (F := F) (x := nI t) (y := y) r1 hF with ⟨w, -⟩ | ⟨t2, u', w0, w1, w2, w3, w4, q, hok, hce⟩
        · refine absurd ⟨⟨e5, t, by omega, rfl⟩, fun w2 => ?_, q3⟩ w
          rw [e21] at w2
          have := nI_inj ht31 (by omega) w2
          omega
        · have et : t2 = t := nI_inj (by omega) ht31 w3.symm
          subst et
          have ho := oR_ge (r := aR um)
          have hr1 := c_replayX (F := F) (k := 0) (t := t2) hR hro (show t2 ≤ Tr um (aR um) by omega) ho hF
          rw [show nI 0 = (0 : Int32) from rfl, cSc_0, Nat.zero_add] at hr1
          have hr2 := c_replayX (F := F) (k := costM (sF um 0 35 0) (aR um) t2) (t := t2 + 1) hR hro (show t2 + 1 ≤ Tr um (aR um) by omega) ho hF
          rw [hr1, ob_i, nI_1, hr2, ob_i]
          have eR : ∀ s, rpm (sF um 0 35 0) (aR um) s = rpm um (aR um) s := fun _ => rfl
          have ec : ∀ s, costM (sF um 0 35 0) (aR um) s = costM um (aR um) s := fun _ => rfl
          have hRel : RelC pB (cSc (sF uc 0 13 0) (oR (aR um)) (nI (costM um (aR um) t2 + costM um (aR um) (t2 + 1)))) u' := Rel_e (Rel_cS h0 m0 ea) ⟨core_cS m0.1, simM_cS m0.2⟩ hce hok
          rw [ec, ec]
          by_cases y0 : y = 0
          · have hl := c_chl (F := F) (y := y) (k := costM um (aR um) t2 + costM um (aR um) (t2 + 1)) (a := 0) (n := 8) hR (show t2 + 1 ≤ Tr um (aR um) by omega) hT3' ho hF (by unfold g_X9_firstPlaceOf; rw [if_pos y0]; rfl) (by unfold g_X9_placesOf; rw [if_pos y0]; rfl) (by omega)
            rw [hl, ob_i]
            rw [if_pos y0] at q
            exact ⟨_, _, rfl, q, rfl, hRel⟩
          · have hl := c_chl (F := F) (y := y) (k := costM um (aR um) t2 + costM um (aR um) (t2 + 1)) (a := 8) (n := 32) hR (show t2 + 1 ≤ Tr um (aR um) by omega) hT3' ho hF (by unfold g_X9_firstPlaceOf; rw [if_neg y0]; rfl) (by unfold g_X9_placesOf; rw [if_neg y0]; rfl) (by omega)
            rw [hl, ob_i]
            rw [if_neg y0] at q
            exact ⟨_, _, rfl, q, rfl, hRel⟩
    · rw [if_pos (nI_le (by omega) ht31)]
      obtain ⟨zm, b1, b2, b3⟩ := bad (fun w => by
        obtain ⟨⟨t', ht', e⟩, -⟩ := w
        have := nI_inj ht31 (by omega) e
        omega)
      exact ⟨_, zm, rfl, b1, b2, b3⟩
/-! how often a place has changed, by the puts -/
theorem cnt_seq (h : PI u q T N) (hp : p < 40) : ∃ c : Nat → Nat, c 0 = 0 ∧ (∀ k, k ≤ N → vS (u.2.1 (q + 5)) 0 (lat (u.2.1 (q + 2)) p k) = nI (c k)) ∧ (∀ k, k < N → c k ≤ c (k + 1)) ∧ (∀ k, c k ≤ k) := by
  obtain ⟨hN, h8, hT, hm, hl, hx⟩ := h
  let c : Nat → Nat := fun n => Nat.rec (motive := fun _ => Nat) 0 (fun k ck => ck + (if u.2.1 (q + 2) k = nI p ∧ ¬ (vS (u.2.1 (q + 3)) 0 (u.2.1 (q + 6) k) = u.2.1 (q + 3) k ∧ vS (u.2.1 (q + 4)) 0 (u.2.1 (q + 6) k) = u.2.1 (q + 4) k) then 1 else 0)) n
  have cs : ∀ k, c (k + 1) = c k + (if u.2.1 (q + 2) k = nI p ∧ ¬ (vS (u.2.1 (q + 3)) 0 (u.2.1 (q + 6) k) = u.2.1 (q + 3) k ∧ vS (u.2.1 (q + 4)) 0 (u.2.1 (q + 6) k) = u.2.1 (q + 4) k) then 1 else 0) := fun _ => rfl
  refine ⟨c, rfl, fun k => ?_, fun k _ => ?_, fun k => ?_⟩
  · induction k with
    | zero => intro _; rfl
    | succ k ih =>
      intro hk
      have ih := ih (by omega)
      rw [cs]
      by_cases w : u.2.1 (q + 2) k = nI p
      · obtain ⟨s, p', b1, b2, b3, b4, b5, b6⟩ := hx k (by omega)
        have ep : p' = p := nI_inj (by omega) (by omega) (b4.symm.trans w)
        subst ep
        rw [lat_y w, vS_n (by omega), b6]
        by_cases w2 : vS (u.2.1 (q + 3)) 0 (u.2.1 (q + 6) k) = u.2.1 (q + 3) k ∧ vS (u.2.1 (q + 4)) 0 (u.2.1 (q + 6) k) = u.2.1 (q + 4) k
        · rw [if_pos w2, if_neg (fun w3 => w3.2 w2), b5, ih, Int32.add_zero, Nat.add_zero]
        · rw [if_neg w2, if_pos ⟨w, w2⟩, b5, ih, nI_1]
      · rw [lat_n w, if_neg (fun w3 => w w3.1), Nat.add_zero]
        exact ih
  · rw [cs]
    exact Nat.le_add_right _ _
  · induction k with
    | zero => exact Nat.le_refl _
    | succ k ih =>
      rw [cs]
      split <;> omega
theorem seq_mono {c : Nat → Nat} (h : ∀ k, k < N → c k ≤ c (k + 1)) : ∀ b, b ≤ N → ∀ a, a ≤ b → c a ≤ c b
  | 0, _, a, ha => by rw [show a = 0 by omega]; exact Nat.le_refl _
  | b + 1, hb, a, ha => by
    rcases Nat.lt_or_ge b a with w | w
    · rw [show a = b + 1 by omega]; exact Nat.le_refl _
    · exact Nat.le_trans (seq_mono h b (by omega) a w) (h b (by omega))
/-- since when a place has as many changes as at t -/
theorem c_changedSince {a0 : Nat} (h : PI u q T N) (hp : p < 40) (ha : lat (u.2.1 (q + 2)) p (cP (u.2.1 (q + 1)) t N) = nI a0) (ha0 : a0 < N) (hv : ¬ vS (u.2.1 (q + 5)) 0 (nI a0) = 0) (hF : 10000 < F) : ∃ s, s ≤ T ∧ g_X6_changedSince F q (nI a0) u = some (nI s) ∧ ∀ m, m ≤ t → (vS (u.2.1 (q + 5)) 0 (lat (u.2.1 (q + 2)) p (cP (u.2.1 (q + 1)) m N)) = vS (u.2.1 (q + 5)) 0 (nI a0) ↔ s ≤ m) := by
  obtain ⟨c, c0, c1, c2, c3⟩ := cnt_seq h hp
  obtain ⟨hN, h8, hT, hm, hl, hx⟩ := id h
  have hc := cP_le (pt := u.2.1 (q + 1)) (t := t) N
  have vt : vS (u.2.1 (q + 5)) 0 (nI a0) = nI (c (cP (u.2.1 (q + 1)) t N)) := by rw [← ha, c1 _ hc]
  obtain ⟨l1, l2, l3⟩ := lat_some (cP (u.2.1 (q + 1)) t N) (by omega) ha (by omega)
  have hch : ∀ i, i < N → u.2.1 (q + 2) i = nI p → u.2.1 (q + 5) i = nI (c (i + 1)) := fun i hi e => by
    rw [← c1 (i + 1) (by omega), lat_y e, vS_n (by omega)]
  have va0 : c (a0 + 1) = c (cP (u.2.1 (q + 1)) t N) := by
    have e1 := c1 (a0 + 1) (by omega)
    rw [lat_y l2, vt] at e1
    exact (nI_inj (by have := c3 (cP (u.2.1 (q + 1)) t N); omega) (by have := c3 (a0 + 1); omega) e1).symm
  have key : Tt (g_X6_changedSince F q (nI a0) u) (fun x => ∃ a, a ≤ a0 ∧ u.2.1 (q + 2) a = nI p ∧ c a < c (a0 + 1) ∧ c (a + 1) = c (a0 + 1) ∧ x = u.2.1 (q + 1) a) := by
    unfold g_X6_changedSince
    rw [hN]
    have fin : ∀ a, a < N → Tt (g_X6_changedSince_j55 F q (nI a) u) (fun x => x = u.2.1 (q + 1) a) := fun a haN => by
      unfold g_X6_changedSince_j55
      rw [x6_time hN h8 (Or.inr ⟨a, haN, rfl⟩), ob_i, vS_n (by omega)]
      exact tt_s rfl
    refine tt_ob (tt_lp (I := fun s => ∃ a k : Nat, a ≤ a0 ∧ a < k ∧ k ≤ N ∧ s.1 = nI a ∧ s.2 = nI k ∧ u.2.1 (q + 2) a = nI p ∧ c (a + 1) = c (a0 + 1)) (m := fun s => s.2.toInt.toNat) (P := fun w => ∃ a, a ≤ a0 ∧ u.2.1 (q + 2) a = nI p ∧ c a < c (a0 + 1) ∧ c (a + 1) = c (a0 + 1) ∧ (w = Sum.inl (nI a) ∨ w = Sum.inr (nI a))) ?_ F _ ?_ ?_) (fun w hw => ?_)
    · rintro ⟨s1, s2⟩ ⟨a, k, b1, b2, b3, b4, b5, b6, b7⟩
      dsimp only at b4 b5 ⊢
      subst b4 b5
      obtain ⟨s, p', d1, d2, d3, d4, d5, -⟩ := hx a (by omega)
      have ep : p' = p := nI_inj (by omega) (by omega) (d4.symm.trans b6)
      subst ep
      unfold g_X6_changedSince_l7
      rw [if_neg (nI_nle (by omega) (by omega)), x6_ahead hN h8 (Or.inr ⟨a, by omega, rfl⟩), ob_i, vS_n (by omega), d5]
      rcases lat_pt (pp := u.2.1 (q + 2)) (p := p') a with e | ⟨a', ha', e⟩
      · rw [e, x6_has_n, ob_i, if_pos rfl]
        refine tt_r ⟨a, b1, b6, ?_, b7, Or.inr rfl⟩
        have e1 := c1 a (by omega)
        rw [e, vS_0] at e1
        have e0 : c a = 0 := (nI_inj (b := c a) (a := 0) (by omega) (by have := c3 a; omega) e1).symm
        rcases Nat.eq_zero_or_pos (c (a0 + 1)) with z | z
        · exfalso
          apply hv
          rw [vt, ← va0, z]
          rfl
        · omega
      · obtain ⟨f1, f2, f3⟩ := lat_some a (by omega) e (by omega)
        rw [e, x6_has_y hN h8 (by omega), ob_i, if_neg (by decide), ob_i, x6_changes hN h8 (Or.inr ⟨a', by omega, rfl⟩), ob_i, vS_n (by omega), x6_changes hN h8 (Or.inr ⟨a0, ha0, rfl⟩), ob_i, vS_n (by omega), hch a' (by omega) f2, hch a0 ha0 l2]
        have ca : c a = c (a' + 1) := by
          have e1 := c1 a (by omega)
          have e2 := c1 (a' + 1) (by omega)
          rw [e, vS_n (by omega)] at e1
          rw [lat_y f2, vS_n (by omega)] at e2
          exact nI_inj (by have := c3 a; omega) (by have := c3 (a' + 1); omega) (e1.symm.trans e2)
        by_cases w : c (a' + 1) = c (a0 + 1)
        · rw [if_pos (by rw [w]), ob_i]
          refine tt_l ⟨⟨a', k - 1, by omega, by omega, by omega, rfl, ?_, f2, w⟩, ms_d0 (by omega) (by omega)⟩
          show nI k + -1 = nI (k - 1)
          have := nI_dec (k := k - 1)
          rwa [show k - 1 + 1 = k by omega] at this
        · rw [if_neg (fun w2 => w (nI_inj (by have := c3 (a' + 1); omega) (by have := c3 (a0 + 1); omega) w2))]
          have := c2 a (by omega)
          exact tt_r ⟨a, b1, b6, by omega, b7, Or.inl rfl⟩
    · exact ms_n (by omega) (by omega)
    · exact ⟨a0, N, Nat.le_refl _, ha0, Nat.le_refl _, rfl, rfl, l2, rfl⟩
    · obtain ⟨a, d1, d2, d3, d4, d5⟩ := hw
      rcases d5 with rfl | rfl
      · exact tt_w (fin a (by omega)) (fun x hx => ⟨a, d1, d2, d3, d4, hx⟩)
      · exact tt_w (fin a (by omega)) (fun x hx => ⟨a, d1, d2, d3, d4, hx⟩)
  obtain ⟨x, e, a, d1, d2, d3, d4, d5⟩ := key
  obtain ⟨s, p', g1, g2, g3, -⟩ := hx a (by omega)
  refine ⟨s, g1, by rw [e, d5, g3], fun m hm' => ?_⟩
  have hcm := cP_le (pt := u.2.1 (q + 1)) (t := m) N
  have hmt := cP_mono (pt := u.2.1 (q + 1)) hm' N
  rw [c1 _ hcm, vt, ← va0]
  have i1 : a < cP (u.2.1 (q + 1)) m N ↔ s ≤ m := by
    rw [cP_iff N hm a (by omega), g3, tnn (by omega)]
  rw [← i1]
  constructor
  · intro w
    have w2 := nI_inj (by have := c3 (cP (u.2.1 (q + 1)) m N); omega) (by have := c3 (a0 + 1); omega) w
    rcases Nat.lt_or_ge a (cP (u.2.1 (q + 1)) m N) with y | y
    · exact y
    · have := seq_mono c2 a (by omega) _ y
      omega
  · intro w
    have x1 := seq_mono c2 (cP (u.2.1 (q + 1)) m N) hcm (a + 1) (by omega)
    have x2 := seq_mono c2 (cP (u.2.1 (q + 1)) t N) hc (cP (u.2.1 (q + 1)) m N) hmt
    rw [show c (cP (u.2.1 (q + 1)) m N) = c (a0 + 1) by omega]
end YI
end W_83
section W_84
-- 97zzs.last
/-! the class and the reference: last, watched -/
section YJ
variable {pB : Prop} {F K W o r t p q T N : Nat} {u uc um uc' um' : rg_U} {x y z v : Int32}
theorem c_since (hR : RR pB uc um o r) (ht : t ≤ Tr um r) (hp : p < 40) (hT3 : Tr um r ≤ 3000) (hv : ¬ (rpm um r t).1 (80 + p) = 0) (hF : 10000 < F) : ∃ n s, g_X6_putBy F (o + 12) (nI t) (nI p) uc = some n ∧ g_X6_changesOf F (o + 12) n uc = some ((rpm um r t).1 (80 + p)) ∧ g_X6_changedSince F (o + 12) n uc = some (nI s) ∧ s ≤ Tr um r ∧ ∀ m, m ≤ t → ((rpm um r m).1 (80 + p) = (rpm um r t).1 (80 + p) ↔ s ≤ m) := by
  obtain ⟨N, hS⟩ := hR.2.2.2.2.2.2
  have hP := hS.2.2.2.1
  have hrow : ∀ m, m ≤ Tr um r → vS (uc.2.1 (o + 12 + 5)) 0 (lat (uc.2.1 (o + 12 + 2)) p (cP (uc.2.1 (o + 12 + 1)) m N)) = (rpm um r m).1 (80 + p) := fun m hm => by
    have w := (hS.2.2.2.2 m hm).1 p hp
    dsimp only at w
    rw [show o + 13 = o + 12 + 1 from rfl] at w
    exact w.2.2.symm
  have hpt : isPt N (lat (uc.2.1 (o + 12 + 2)) p (cP (uc.2.1 (o + 12 + 1)) t N)) := lat_ok (cP_le N)
  rcases id hpt with e | ⟨a0, ha0, e⟩
  · have := hrow t ht
    rw [e, vS_0] at this
    exact absurd this.symm hv
  · obtain ⟨s, s1, s2, s3⟩ := c_changedSince (F := F) (t := t) hP hp e ha0 (by rw [← e, hrow t ht]; exact hv) hF
    refine ⟨nI a0, s, ?_, ?_, s2, s1, fun m hm => ?_⟩
    · rw [← e]; exact c_putBy hP hp (by omega) hF
    · rw [← e, x6_changes hP.1 hP.2.1 hpt, hrow t ht]
    · rw [← hrow m (by omega), ← hrow t ht, e]
      exact s3 m hm
theorem c_hv {s : Nat} {c : Int32} (hR : RR pB uc um o r) (hro : runOK um r) (ho : 116 ≤ o) (hF : 10000 < F) (hT : T ≤ Tr um r) (hT3 : T ≤ 3000) (hs3 : s ≤ 3000) (hs : ∀ m, m ≤ T → ((rpm um r m).1 (80 + p) = c ↔ s ≤ m)) : ∀ (f lo hi k : Nat), hi ≤ T → hi - lo ≤ f → lo ≤ hi → ∀ G, f < G → lp (fun (z : Int32 × Int32 × rg_U) => g_X9_lastChange_l48 F o (nI s) z.1 z.2.1 z.2.2) G (nI lo, nI hi, cSc uc o (nI k)) = some (nI (hvg (fun m => (rpm um r m).1 (80 + p) = c) (costM um r) f lo hi).1, cSc uc o (nI (k + (hvg (fun m => (rpm um r m).1 (80 + p) = c) (costM um r) f lo hi).2)))
  | f, lo, hi, k, h1, h2, h3, G, hG => by
    match G, hG with
    | 0, hG => omega
    | G + 1, hG =>
    by_cases q : lo < hi
    · match f, h2, hG with
      | 0, h2, hG => omega
      | f + 1, h2, hG =>
        have hb : g_X9_lastChange_l48 F o (nI s) (nI lo) (nI hi) (cSc uc o (nI k)) = if s ≤ (lo + hi) / 2 then some (.inl (nI lo, nI ((lo + hi) / 2), cSc uc o (nI (k + costM um r ((lo + hi) / 2))))) else some (.inl (nI ((lo + hi) / 2 + 1), nI hi, cSc uc o (nI (k + costM um r ((lo + hi) / 2))))) := by
          unfold g_X9_lastChange_l48 g_X9_lastChange_j91
          rw [if_neg (nI_ge q (by omega)), nI_add, show nI (lo + hi) / 2 = nI ((lo + hi) / 2) from pk_div (d := 2) (by omega) (by decide) (by decide), c_replayX hR hro (by omega) ho hF, ob_i, nI_1]
          by_cases z : s ≤ (lo + hi) / 2
          · rw [if_neg (nI_nlt z (by omega)), if_pos z]
          · rw [if_pos (nI_lt (by omega) (by omega)), if_neg z]
        have hc := hs ((lo + hi) / 2) (by omega)
        by_cases z : s ≤ (lo + hi) / 2
        · rw [if_pos z] at hb
          rw [lp_l (body := fun (z : Int32 × Int32 × rg_U) => g_X9_lastChange_l48 F o (nI s) z.1 z.2.1 z.2.2) (s := (nI lo, nI hi, cSc uc o (nI k))) hb, hvg_y (c := fun m => (rpm um r m).1 (80 + p) = c) q (hc.mpr z), c_hv hR hro ho hF hT hT3 hs3 hs f lo ((lo + hi) / 2) (k + costM um r ((lo + hi) / 2)) (by omega) (by omega) (by omega) G (by omega)]
          dsimp only
          rw [← Nat.add_assoc]
        · rw [if_neg z] at hb
          rw [lp_l (body := fun (z : Int32 × Int32 × rg_U) => g_X9_lastChange_l48 F o (nI s) z.1 z.2.1 z.2.2) (s := (nI lo, nI hi, cSc uc o (nI k))) hb, hvg_n (c := fun m => (rpm um r m).1 (80 + p) = c) q (fun w => z (hc.mp w)), c_hv hR hro ho hF hT hT3 hs3 hs f ((lo + hi) / 2 + 1) hi (k + costM um r ((lo + hi) / 2)) (by omega) (by omega) (by omega) G (by omega)]
          dsimp only
          rw [← Nat.add_assoc]
    · have hb : g_X9_lastChange_l48 F o (nI s) (nI lo) (nI hi) (cSc uc o (nI k)) = some (.inr (nI lo, cSc uc o (nI k))) := by
        unfold g_X9_lastChange_l48
        rw [if_pos (nI_le (by omega) (by omega))]
      have he : hvg (fun m => (rpm um r m).1 (80 + p) = c) (costM um r) f lo hi = (lo, 0) := by
        cases f with
        | zero => rfl
        | succ f => exact if_neg q
      rw [lp_r (body := fun (z : Int32 × Int32 × rg_U) => g_X9_lastChange_l48 F o (nI s) z.1 z.2.1 z.2.2) (s := (nI lo, nI hi, cSc uc o (nI k))) hb, he]
      rfl
theorem c_lastChange {k : Nat} (hR : RR pB uc um o r) (hro : runOK um r) (ht : t ≤ Tr um r) (hp : p < 40) (hT3 : Tr um r ≤ 3000) (ho : 116 ≤ o) (hF : 10000 < F) : g_X9_lastChange F o (nI t) (nI p) (cSc uc o (nI k)) = some (laA um r t p, cSc uc o (nI (k + laC um r t p))) := by
  unfold g_X9_lastChange
  rw [c_replayX hR hro ht ho hF, ob_i]
  unfold laA laC
  by_cases q : (rpm um r t).1 (80 + p) = 0
  · obtain ⟨n, b1, b2⟩ := c_readX (F := F) (k := k + costM um r t) (p := p) hR ht hp hT3 ho hF
    rw [b1, ob_i, b2, ob_i, if_pos q, if_pos q, if_pos q, Nat.add_zero]
  · obtain ⟨n, s, b1, b2, b3, b4, b5⟩ := c_since (F := F) (RR_x hR ho (nI (k + costM um r t))) ht hp hT3 (by rw [rpm_cS]; exact q) hF
    have b4' : s ≤ Tr um r := b4
    rw [rpm_cS] at b2
    rw [b1, ob_i, b2, ob_i, if_neg q, if_neg q, if_neg q, b3, ob_i]
    have h := c_hv (F := F) (s := s) (p := p) (c := (rpm um r t).1 (80 + p)) (T := t) hR hro ho hF ht (by omega) (by omega) (fun m hm => by
      have w := b5 m hm
      rw [rpm_cS, rpm_cS] at w
      exact w) t 0 t (k + costM um r t) (Nat.le_refl _) (by omega) (by omega) F (by omega)
    rw [show nI 0 = (0 : Int32) from rfl] at h
    rw [h, ob_i, Nat.add_assoc]
theorem sr_last (hF : 10000 < F) : SB pB (g_X9_last F x y) (g_X10_last F x y) := fun uc um h => by
  obtain ⟨K, W, r1, -⟩ := id h
  have h0 := Rel_zero h
  have m0 : okM (sF um 0 35 0) K W := okM_34 (by omega) r1
  have eA : aR (sF um 0 35 0) = aR um := rfl
  unfold g_X9_last
  rw [lt1_i]
  rcases Rel_ask (F := F) h0 m0 with ⟨e5, en⟩ | ⟨ea, e5, h5, en, hR⟩
  · rw [en, ob_i, om_0]
    rcases m_last (F := F) (x := x) (y := y) r1 hF with ⟨-, q, -⟩ | ⟨t, p, u', -, w, -⟩
    · exact ⟨_, _, rfl, q, rfl, h0⟩
    · rw [show um.2.1 5 (aR um) = 0 from e5] at w
      exact absurd w (by decide)
  · have hro := m0.1.2.2.2.2.1 _ ea
    have hT3 := hro.2.2.2.2.2.2.1.1.2.2.2.1
    rw [eA] at *
    obtain ⟨N, hS⟩ := hR.2.2.2.2.2.2
    rw [en, ob_i, om_i, ck_t (oR_rn h5), cl_place]
    have bad : ¬ (isTm um x ∧ ¬ g_X10_isPlace y = 0) → ∃ zm, g_X10_last F x y um = some zm ∧ (-2 : Int32) = zm.1 ∧ RelC pB (sF uc 0 13 0) zm.2 := fun hb => by
      rcases m_last (F := F) (x := x) (y := y) r1 hF with ⟨-, q, -⟩ | ⟨t, p, u', -, w1, w2, w3, w4, w5, -⟩
      · exact ⟨_, q, rfl, h0⟩
      · exact absurd ⟨⟨w1, t, w2, w3⟩, by rw [w5]; exact in_nI (a := 0) (b := 39) (by omega) (by omega) (by decide)⟩ hb
    rcases x7_hasI (F := F) (x := x) hS.1 hT3 with ⟨q1, q2⟩ | ⟨t, ht, rfl, q1⟩
    · rw [q1, ob_i, if_pos rfl]
      obtain ⟨zm, b1, b2, b3⟩ := bad (fun w => q2 w.1.2)
      exact ⟨_, zm, rfl, b1, b2, b3⟩
    · rw [q1, ob_i, if_neg (by decide)]
      by_cases q2 : g_X10_isPlace y = 0
      · rw [if_pos q2]
        obtain ⟨zm, b1, b2, b3⟩ := bad (fun w => w.2 q2)
        exact ⟨_, zm, rfl, b1, b2, b3⟩
      · rw [if_neg q2]
        rcases m_last (F := F) (x := nI t) (y := y) r1 hF with ⟨w, -⟩ | ⟨t2, p, u', w0, w1, w2, w3, w4, w5, q, hok, hce⟩
        · exact absurd ⟨⟨e5, t, ht, rfl⟩, q2⟩ w
        · have et : t2 = t := nI_inj (by have : Tr um (aR um) ≤ 3000 := hT3; omega) (by have : Tr um (aR um) ≤ 3000 := hT3; have : t ≤ Tr um (aR um) := ht; omega) w3.symm
          subst et
          have hl := c_lastChange (F := F) (k := 0) (t := t2) (p := p) hR hro ht w4 hT3 oR_ge hF
          have el : laA (sF um 0 35 0) (aR um) t2 p = laA um (aR um) t2 p := rfl
          have ec : laC (sF um 0 35 0) (aR um) t2 p = laC um (aR um) t2 p := rfl
          rw [show nI 0 = (0 : Int32) from rfl, cSc_0, Nat.zero_add, el, ec] at hl
          rw [w5] at q
          rw [w5, hl, ob_i]
          exact ⟨_, _, rfl, q, rfl, Rel_e (Rel_cS h0 m0 ea) ⟨core_cS m0.1, simM_cS m0.2⟩ hce hok⟩
theorem sr_watched (hF : 10000 < F) : SB pB (g_X9_watched F x) (g_X10_watched F x) := fun uc um h => by
  obtain ⟨K, W, r1, -⟩ := id h
  have h0 := Rel_zero h
  have m0 : okM (sF um 0 35 0) K W := okM_34 (by omega) r1
  have eA : aR (sF um 0 35 0) = aR um := rfl
  have hW : WR uc um := by
    obtain ⟨K2, W2, -, -, -, w, -⟩ := id h
    exact w
  have h01 : ∀ p, p < 40 → um.2.1 30 p = 0 ∨ um.2.1 30 p = 1 := r1.1.2.2.2.2.2.2.2
  unfold g_X9_watched
  rw [lt1_i]
  rcases Rel_ask (F := F) h0 m0 with ⟨e5, en⟩ | ⟨ea, e5, h5, en, hR⟩
  · rw [en, ob_i, om_0]
    rcases m_watched (F := F) (x := x) r1 hF with ⟨-, q, -⟩ | ⟨t, u', -, w, -⟩
    · exact ⟨_, _, rfl, q, rfl, h0⟩
    · rw [show um.2.1 5 (aR um) = 0 from e5] at w
      exact absurd w (by decide)
  · have hro := m0.1.2.2.2.2.1 _ ea
    have hT3 := hro.2.2.2.2.2.2.1.1.2.2.2.1
    rw [eA] at *
    have hT3' : Tr um (aR um) ≤ 3000 := hT3
    obtain ⟨N, hS⟩ := hR.2.2.2.2.2.2
    have h9 : rF (sF uc 0 13 0) (oR (aR um)) 9 = nI (Tr um (aR um)) := hS.1
    rw [en, ob_i, om_i, ck_t (oR_rn h5), h9]
    have bad : ¬ (∃ t, 1 ≤ t ∧ t ≤ Tr um (aR um) ∧ x = nI t) → ∃ zm, g_X10_watched F x um = some zm ∧ (-2 : Int32) = zm.1 ∧ RelC pB (sF uc 0 13 0) zm.2 := fun hb => by
      rcases m_watched (F := F) (x := x) r1 hF with ⟨-, q, -⟩ | ⟨t, u', -, w1, w2, w3, w4, -⟩
      · exact ⟨_, q, rfl, h0⟩
      · exact absurd ⟨t, w2, w3, w4⟩ hb
    by_cases q1 : x < 1
    · rw [if_pos q1]
      obtain ⟨zm, b1, b2, b3⟩ := bad (fun ⟨t, a1, a2, a3⟩ => by
        rw [a3] at q1
        exact nI_nlt (a := t) (b := 1) a1 (by omega) q1)
      exact ⟨_, zm, rfl, b1, b2, b3⟩
    rw [if_neg q1]
    have q0 : ¬ x < 0 := by
      intro w
      rw [Int32.lt_iff_toInt_lt] at w q1
      have e1 : (1 : Int32).toInt = 1 := rfl
      have e0 : (0 : Int32).toInt = 0 := rfl
      omega
    obtain ⟨t, ht31, rfl⟩ := nI_of q0
    have ht1 : 1 ≤ t := by
      rcases Nat.eq_zero_or_pos t with z | z
      · subst z; exact absurd (by decide) q1
      · exact z
    by_cases q2 : t ≤ Tr um (aR um)
    · rw [if_pos (nI_le q2 (by omega))]
      rcases m_watched (F := F) (x := nI t) r1 hF with ⟨w, -⟩ | ⟨t2, u', w0, w1, w2, w3, w4, q, hok, hce⟩
      · exact absurd ⟨q1, e5, t, q2, rfl⟩ w
      · have et : t2 = t := nI_inj (by omega) ht31 w4.symm
        subst et
        have ho := oR_ge (r := aR um)
        have h := lp_up (body := fun (s : Int32 × Int32 × rg_U) => g_X9_watched_l39 F (oR (aR um)) (nI t2) s.1 s.2.1 s.2.2) (fun i => ((wtA um (aR um) (t2 - 1) i).1, nI i, cSc (sF uc 0 13 0) (oR (aR um)) (nI (wtA um (aR um) (t2 - 1) i).2))) 40 ((wtA um (aR um) (t2 - 1) 40).1, cSc (sF uc 0 13 0) (oR (aR um)) (nI (wtA um (aR um) (t2 - 1) 40).2)) (fun i hi => by
          show g_X9_watched_l39 F (oR (aR um)) (nI t2) (wtA um (aR um) (t2 - 1) i).1 (nI i) (cSc (sF uc 0 13 0) (oR (aR um)) (nI (wtA um (aR um) (t2 - 1) i).2)) = _
          have hw : g_X9_isWatched F (nI i) (cSc (sF uc 0 13 0) (oR (aR um)) (nI (wtA um (aR um) (t2 - 1) i).2)) = some (um.2.1 30 i) := c_isWatched (WR_c hW ((sF_n (by omega)).trans ((sF_n (by omega)).trans (sF_n (by omega)))) ((sF_n (by omega)).trans ((sF_n (by omega)).trans (sF_n (by omega)))) rfl) h01 hi
          unfold g_X9_watched_l39 g_X9_watched_j70
          rw [if_neg (show ¬ (40 : Int32) ≤ nI i from nI_ge (a := i) (b := 40) (by omega) (by decide)), hw, ob_i, nI_1]
          by_cases z : um.2.1 30 i = 0
          · have ew : wtA um (aR um) (t2 - 1) (i + 1) = wtA um (aR um) (t2 - 1) i := if_pos z
            rw [if_pos z, ew]
          · have ew : wtA um (aR um) (t2 - 1) (i + 1) = (imax (wtA um (aR um) (t2 - 1) i).1 (laA um (aR um) (t2 - 1) i), (wtA um (aR um) (t2 - 1) i).2 + laC um (aR um) (t2 - 1) i) := if_neg z
            have hl := c_lastChange (F := F) (k := (wtA um (aR um) (t2 - 1) i).2) (t := t2 - 1) (p := i) hR hro (show t2 - 1 ≤ Tr um (aR um) by omega) hi hT3 ho hF
            have el : laA (sF um 0 35 0) (aR um) (t2 - 1) i = laA um (aR um) (t2 - 1) i := rfl
            have ec : laC (sF um 0 35 0) (aR um) (t2 - 1) i = laC um (aR um) (t2 - 1) i := rfl
            rw [el, ec] at hl
            rw [if_neg z, show nI t2 - 1 = nI (t2 - 1) from nI_sub (a := t2) (b := 1) ht1, hl, ob_i]
            dsimp only
            rw [ew]) (by
          show g_X9_watched_l39 F (oR (aR um)) (nI t2) _ (nI 40) _ = _
          unfold g_X9_watched_l39
          rw [if_pos (by decide)]) F 0 (by omega) (by omega)
        have e0 : ((wtA um (aR um) (t2 - 1) 0).1, nI 0, cSc (sF uc 0 13 0) (oR (aR um)) (nI (wtA um (aR um) (t2 - 1) 0).2)) = ((-1 : Int32), (0 : Int32), sF uc 0 13 0) := by
          show ((-1 : Int32), nI 0, cSc (sF uc 0 13 0) (oR (aR um)) (nI 0)) = _
          rw [show nI 0 = (0 : Int32) from rfl, cSc_0]
        rw [e0] at h
        rw [h, ob_i]
        exact ⟨_, _, rfl, q, rfl, Rel_e (Rel_cS h0 m0 ea) ⟨core_cS m0.1, simM_cS m0.2⟩ hce hok⟩
    · rw [if_neg (nI_ge (by omega) ht31)]
      obtain ⟨zm, b1, b2, b3⟩ := bad (fun ⟨t', a1, a2, a3⟩ => by
        have := nI_inj ht31 (by omega) a3
        omega)
      exact ⟨_, zm, rfl, b1, b2, b3⟩
end YJ
end W_84
