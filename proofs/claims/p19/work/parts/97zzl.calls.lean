/-! the class and the reference: poke, back, keep, begin -/
section YD
variable {pB : Prop} {F K W : Nat} {uc um uc' um' : rg_U} {x y z v : Int32}
theorem okX_k {g : rg_U → Option (Int32 × rg_U)} {zc : Int32 × rg_U} (h : okX uc) (hw : Tt (g uc) (fun z => wkX uc z.2)) (e : g uc = some zc) : okX zc.2 := tt_get (P := fun z => okX z.2) (tt_w hw (fun _ hz => okX_w h hz)) e
theorem sb_poke : SB pB (g_X9_poke F x y z) (g_X10_poke F x y z) := fun uc um h => by
  obtain ⟨K, W, r1, r2, r3, r4, ⟨s1, s2, s3, s4, s5⟩, r6, r7, r8, r9⟩ := id h
  rcases now_iff r2 r6 r1.1.2.1.1 with ⟨e7, e5⟩ | ⟨e7, e5⟩
  · rcases m_poke (F := F) (x := x) (s := y) (num := z) r1 with ⟨-, q⟩ | ⟨p, -, -, w, -⟩
    · refine ⟨(-1, uc), _, ?_, q, rfl, h⟩
      unfold g_X9_poke
      rw [e7, om_0]
    · rw [e5] at w
      exact absurd w (by decide)
  · have hR := r8 e5
    have hro := r1.1.2.2.2.2.1 4 (Or.inr ⟨rfl, e5⟩)
    have hn8 := hro.2.2.2.2.2.2.1.1.2.2.1
    have hr : isRn 116 := Or.inl rfl
    have hcls : g_X9_poke F x y z uc = (if nr um 4 = 800 ∨ g_X10_isPlace x = 0 ∨ g_X10_isValue y z = 0 then some (-1, uc) else ob (g_X7_putByPoke F 116 x y z uc) (fun r12 => if r12.1 = 0 then (some (0, r12.2)) else (some (1, r12.2)))) := by
      unfold g_X9_poke
      rw [e7]
      simp only [om_i]
      rw [ck_t hr, ck_t hr, c_logfull hR.2.1.1 hn8, ob_i, ck_t hr, cl_place, cl_value]
      by_cases q : nr um 4 = 800
      · rw [if_pos q, if_neg (by decide), if_pos (Or.inl q)]
      · rw [if_neg q, if_pos rfl]
        by_cases q2 : g_X10_isPlace x = 0
        · rw [if_pos q2, if_pos (Or.inr (Or.inl q2))]
        · rw [if_neg q2]
          by_cases q3 : g_X10_isValue y z = 0
          · rw [if_pos q3, if_pos (Or.inr (Or.inr q3))]
          · rw [if_neg q3, if_neg (fun w => by rcases w with w | w | w; exact q w; exact q2 w; exact q3 w)]
    rcases m_poke (F := F) (x := x) (s := y) (num := z) r1 with ⟨w, q⟩ | ⟨p, hp, rfl, -, w2, w3, q, hok⟩
    · refine ⟨(-1, uc), _, ?_, q, rfl, h⟩
      rw [hcls, if_pos]
      by_cases a1 : nr um 4 = 800
      · exact Or.inl a1
      · by_cases a2 : g_X10_isPlace x = 0
        · exact Or.inr (Or.inl a2)
        · by_cases a3 : g_X10_isValue y z = 0
          · exact Or.inr (Or.inr a3)
          · exact absurd ⟨e5, a2, a3, by omega⟩ w
    · obtain ⟨uc', b1, b2, b3, b4, b5, b6⟩ := RR_poke (F := F) (s := y) (num := z) r1 e5 w3 hp hR (by omega)
      have hans : g_X9_poke F (nI p) y z uc = some ((if um.2.1 28 p = y ∧ um.2.1 28 (40 + p) = z then 0 else 1), uc') := by
        rw [hcls, if_neg (fun a => by
          rcases a with a | a | a
          · omega
          · exact in_nI (a := 0) (b := 39) (by omega) (by omega) (by decide) a
          · exact w2 a), b1, ob_i]
        by_cases a : um.2.1 28 p = y ∧ um.2.1 28 (40 + p) = z
        · rw [if_pos a, if_pos rfl]
        · rw [if_neg a]
          exact if_neg (show ¬ (1 : Int32) = 0 by decide)
      refine ⟨_, _, hans, q, rfl, ?_⟩
      have hA : ∀ j, j ≠ 28 → (pokeS um (nr um 4) p y z).2.1 j = (ntS um (nr um 4) 2 z (nI p) y).2.1 j := fun j hj => pm_up_n hj
      have hB : ∀ j, (j < 10 ∨ 15 < j) → j ≠ 28 → (pokeS um (nr um 4) p y z).2.1 j = um.2.1 j := fun j hj h28 => (hA j h28).trans (ntS_n hj)
      have hf : ∀ k, k ≠ 41 → (pokeS um (nr um 4) p y z).1 k = um.1 k := fun k hk => sF_n (by omega)
      have hg : ∀ r, r < 4 → agR um (pokeS um (nr um 4) p y z) r := fun r hr => agR_t (ntS_fr hr) (agR_A (fun j j1 j2 => hA j (by omega)))
      refine ⟨K, W, hok, okX_k r2 (wk_poke (wx_r r2.1) r2.2) hans, OutR_c r3 b4 b5 b6 (b3.2.1 7 (by omega)) (hB 29 (by omega) (by omega)) (hf 34 (by omega)), WR_c r4 (b3.2.2 _ (by omega)) (b3.2.2 _ (by omega)) (hB 30 (by omega) (by omega)), ⟨(b3.2.2 _ (by omega)).trans s1, (b3.2.2 _ (by omega)).trans (s2.trans (hf _ (by omega)).symm), (b3.2.2 _ (by omega)).trans (s3.trans (hf _ (by omega)).symm), (b3.2.2 _ (by omega)).trans (s4.trans (hf _ (by omega)).symm), fun hb => (b3.2.2 _ (by omega)).trans ((s5 hb).trans (hf _ (by omega)).symm)⟩, ?_, fun z' k hz hk => ?_, fun _ => b2, Rel_kept r1 r9 (fun j hj => b3.2.1 j (by omega)) (fun k hk => b3.2.2 k (by omega)) hg⟩
      · rw [show rG uc' 0 7 = rG uc 0 7 by unfold rG; rw [b3.1], hB 5 (by omega) (by omega)]
        exact r6
      · rw [b3.2.1 _ (by omega), hB _ (by omega) (by omega)]
        exact r7 z' k hz hk
/-- the latest count is 0 -/
theorem Rel_zero (h : RelC pB uc um) : RelC pB (sF uc 0 13 0) (sF um 0 35 0) := by
  obtain ⟨K, W, r1, r2, r3, r4, ⟨s1, s2, s3, s4, s5⟩, r6, r7, r8, r9⟩ := id h
  exact Rel_small (K' := K) h (fun K W hm => okM_34 (by omega) hm) (okX_n r2 (by decide)) (fun _ _ => rfl) (fun k hk => sF_n (by omega)) (fun _ _ _ => rfl) (fun k k1 k2 _ => sF_n (by omega)) rfl (WR_c r4 (sF_n (by omega)) (sF_n (by omega)) rfl) (sF_n (by omega)) ((sF_n (by omega)).trans (s2.trans (sF_n (by omega)).symm)) ((sF_n (by omega)).trans (s3.trans (sF_n (by omega)).symm)) ((sF_n (by omega)).trans (s4.trans (sF_n (by omega)).symm)) (fun _ => sF_y.trans sF_y.symm) r7
theorem sb_back (hF : 10000 < F) : SB pB (g_X9_back F x) (g_X10_back F x) := fun uc um h => by
  obtain ⟨K, W, r1, r2, r3, r4, ⟨s1, s2, s3, s4, s5⟩, r6, r7, r8, r9⟩ := id h
  have h0 := Rel_zero h
  have hr : isRn 116 := Or.inl rfl
  rcases now_iff r2 r6 r1.1.2.1.1 with ⟨e7, e5⟩ | ⟨e7, e5⟩
  · rcases m_back (F := F) (x := x) r1 hF with ⟨-, q, -⟩ | ⟨t, u', W', C', w, -⟩
    · refine ⟨(-1, sF uc 0 13 0), _, ?_, q, rfl, h0⟩
      unfold g_X9_back
      rw [lt1_i, show rG (sF uc 0 13 0) 0 7 = none from e7, om_0]
    · rw [e5] at w
      exact absurd w (by decide)
  · have hR := r8 e5
    have hro := r1.1.2.2.2.2.1 4 (Or.inr ⟨rfl, e5⟩)
    have hT3 := hro.2.2.2.2.2.2.1.1.2.2.2.1
    have hS := hR.2.2.2.2.2.2
    have e9 : rF (sF uc 0 13 0) 116 9 = nI (Tr um 4) := by
      obtain ⟨N, hS⟩ := hS
      exact (sF_n (by omega)).trans hS.1
    have hcls : g_X9_back F x uc = (if x < 0 then some (-1, sF uc 0 13 0) else if x < nI (Tr um 4) then ob (g_X9_replay F 116 x (sF uc 0 13 0)) (fun r14 => om (rG r14 0 7) none (fun o19 => ck (isRn o19) (ob (g_X7_goBack F o19 x r14) (fun r21 => some (rF r21 0 13, r21))))) else some (-1, sF uc 0 13 0)) := by
      unfold g_X9_back
      rw [lt1_i, show rG (sF uc 0 13 0) 0 7 = some 116 from e7]
      simp only [om_i]
      rw [ck_t hr, ck_t hr, ck_t hr, e9]
    rcases m_back (F := F) (x := x) r1 hF with ⟨w, q, -⟩ | ⟨t, um', W', C', -, w2, rfl, q, hok, hbk⟩
    · refine ⟨(-1, sF uc 0 13 0), _, ?_, q, rfl, h0⟩
      rw [hcls]
      by_cases a : x < 0
      · rw [if_pos a]
      · rw [if_neg a]
        obtain ⟨k, hk, rfl⟩ := nI_of a
        rw [if_neg (nI_nlt (by
          have : ¬ k < Tr um 4 := fun b => w ⟨e5, k, b, rfl⟩
          omega) hk)]
    · have hR1 : RR pB (sF uc 0 13 0) um 116 4 := RR_f hR (fun _ _ _ => rfl) (fun k k1 _ => sF_n (by omega))
      have hrep := c_replay (F := F) (t := t) hR1 hro (by omega) (by omega) hF
      have e13 : rF (sF uc 0 13 0) 0 13 = 0 := sF_y
      rw [e13] at hrep
      generalize hw : sF (sF (sF uc 0 13 0) 116 12 (rF (sF uc 0 13 0) 116 12 + nI (costM um 4 t))) 0 13 (0 + nI (costM um 4 t)) = w at hrep
      have hw2 : w.2 = uc.2 := by rw [← hw]; rfl
      have hwf : ∀ k, k ≠ 100 * 116 + 12 → k ≠ 13 → w.1 k = uc.1 k := fun k k1 k2 => by rw [← hw, sF_n (by omega), sF_n k1, sF_n (by omega)]
      have hw13 : rF w 0 13 = nI (costM um 4 t) := by rw [← hw, sF_y, Int32.zero_add]
      have hb := hbk.2.2.1
      have hw12 : pB → rF w 116 12 = um'.2.1 25 4 := fun hpb => by
        rw [hb.1, ← hw]
        show (sF (sF (sF uc 0 13 0) 116 12 _) 0 13 _).1 (100 * 116 + 12) = _
        rw [sF_n (by omega)]
        refine (sF_y (u := sF uc 0 13 0) (j := 116) (s := 12)).trans ?_
        rw [show rF (sF uc 0 13 0) 116 12 = rF uc 116 12 from sF_n (by omega), hR.2.2.2.2.2.1.2.2.1 hpb]
      obtain ⟨uc', g1, g2, g3, g4, g5, g6⟩ := RR_back (F := F) r1 e5 w2 hR r3 (by omega) hbk hw2 hwf hw12 hF
      have hans : g_X9_back F (nI t) uc = some (nI (costM um 4 t), uc') := by
        rw [hcls, if_neg (nI_pos (by omega)), if_pos (nI_lt w2 (by omega)), hrep, ob_i, show rG w 0 7 = some 116 by unfold rG; rw [hw2]; exact e7, om_i, ck_t hr, g1, ob_i, show rF uc' 0 13 = rF w 0 13 from g6 _ (by omega), hw13]
      obtain ⟨-, b6, ⟨-, -, b9, b10, b11⟩, b12, b13, -⟩ := hbk
      have cf : ∀ k, (k < 13 ∨ 15000 ≤ k) → uc'.1 k = uc.1 k := fun k hk => (g6 k (by omega)).trans (hwf k (by omega) (by omega))
      have ca : ∀ j, (j < 7 ∨ 150 ≤ j) → uc'.2.1 j = uc.2.1 j := fun j hj => (g5 j (by omega) (by omega)).trans (by rw [hw2])
      refine ⟨_, _, hans, q, rfl, K, W', hok, okX_k r2 (wk_back (wx_r r2.1) r2.2 hF) hans, g3, WR_c r4 (cf _ (by omega)) (cf _ (by omega)) (b6 30 (by omega)), ⟨(cf _ (by omega)).trans s1, (cf _ (by omega)).trans (s2.trans (b12 _ (by omega)).symm), (cf _ (by omega)).trans (s3.trans (b12 _ (by omega)).symm), (cf _ (by omega)).trans (s4.trans (b12 _ (by omega)).symm), ?_⟩, ?_, fun z k hz hk => ?_, fun _ => g2, Rel_kept r1 r9 (fun j hj => ca j (by omega)) (fun k hk => cf k (by omega)) b13⟩
      · intro _
        rw [b9, ← hw13]
        exact g6 _ (by omega)
      · rw [show rG uc' 0 7 = rG uc 0 7 by unfold rG; rw [g4, hw2], b6 5 (by omega)]
        exact r6
      · rw [ca _ (by omega), b6 _ (by omega)]
        exact r7 z k hz hk
/-- the status, on both sides -/
theorem c_status {o : Nat} (hm : okM um K W) (e5 : um.2.1 5 4 = 1) (hR : RR pB uc um o 4) (hO : OutR uc um W) : g_X7_statusWith F o uc = some (stM um W) := by
  have hro := hm.1.2.2.2.2.1 4 (Or.inr ⟨rfl, e5⟩)
  have hlive := hm.1.2.2.2.2.2.1 e5
  have hw := hro.2.2.2.2.2.2.1
  have hG := hw.1
  have hT3 := hG.2.2.2.1
  obtain ⟨⟨cn, hcn, ecn⟩, -⟩ := (rp_ok hG (Tr um 4) (Nat.le_refl _)).1
  have ecn' : um.2.1 28 120 = nI cn := by rw [hlive]; exact ecn
  obtain ⟨r1, r2, r3, r4, r5, ⟨r6, r7, r8, r9⟩, N, hS⟩ := hR
  obtain ⟨A, o1, -, -⟩ := hO
  have e10 : rF uc o 10 = um.2.1 28 132 := r7.trans (by rw [hlive])
  have e30 : uc.2.1 (o + 30) (Tr um 4) = nI cn := (hS.2.2.1 (Tr um 4) (Nat.le_refl _)).1.trans ecn
  unfold g_X7_statusWith stM
  rw [e10]
  by_cases q : um.2.1 28 132 = 0
  · rw [if_pos q, if_pos q, hS.1, x7_counter hS.1 hT3 (Nat.le_refl _), ob_i, e30, x5_kind r1 hcn, ob_i, ecn', o1.2.1]
    have j55 : g_X7_statusWith_j55 F o uc = some (if nr um 4 = 800 then 3 else 0) := by
      unfold g_X7_statusWith_j55
      rw [c_logfull r2.1 hG.2.2.1, ob_i]
      by_cases z : nr um 4 = 800
      · rw [if_pos z, if_pos z, if_neg (by decide)]
      · rw [if_neg z, if_neg z, if_pos rfl]
    have j43 : g_X7_statusWith_j43 F o (kindOf (Pm um 4) (nI cn)) uc = some (if (kindOf (Pm um 4) (nI cn) = 19 ∨ kindOf (Pm um 4) (nI cn) = 20) ∧ nr um 4 = 800 then 3 else 0) := by
      unfold g_X7_statusWith_j43
      rw [j55]
      by_cases z1 : kindOf (Pm um 4) (nI cn) = 19
      · rw [if_pos z1]
        by_cases z : nr um 4 = 800
        · rw [if_pos z, if_pos ⟨Or.inl z1, z⟩]
        · rw [if_neg z, if_neg (fun w => z w.2)]
      · rw [if_neg z1]
        by_cases z2 : kindOf (Pm um 4) (nI cn) = 20
        · rw [if_pos z2]
          by_cases z : nr um 4 = 800
          · rw [if_pos z, if_pos ⟨Or.inr z2, z⟩]
          · rw [if_neg z, if_neg (fun w => z w.2)]
        · rw [if_neg z2, if_neg (fun w => by rcases w.1 with w | w; exact z1 w; exact z2 w)]
    by_cases z1 : kindOf (Pm um 4) (nI cn) = 19
    · rw [if_pos z1]
      by_cases zw : W = 0
      · rw [if_pos (by rw [zw]; rfl), if_pos ⟨z1, zw⟩]
      · rw [if_neg (nI_ne0 (by omega) (by have := o1.2.2.2; omega)), if_neg (fun w => zw w.2), j43]
    · rw [if_neg z1, if_neg (fun w => z1 w.1), j43]
  · rw [if_neg q, if_neg q]
theorem sb_keep (hF : 10000 < F) : SB pB (g_X9_keep F) (g_X10_keep F) := fun uc um h => by
  obtain ⟨K, W, r1, r2, r3, r4, ⟨s1, s2, s3, s4, s5⟩, r6, r7, r8, r9⟩ := id h
  have hK := r1.1.1.2.1
  have h116 : isRn 116 := Or.inl rfl
  obtain ⟨rm, erm, hrm⟩ := z_room (F := F) (x := rF uc 0 6) r2.2
  rcases m_keep (F := F) r1 hF with ⟨w, q⟩ | ⟨e5, w, um', q, hok, k1, k2, k3, k4, k5⟩
  · refine ⟨(-1, uc), _, ?_, q, rfl, h⟩
    unfold g_X9_keep
    rw [erm, ob_i]
    rcases now_iff r2 r6 r1.1.2.1.1 with ⟨e7, e5⟩ | ⟨e7, e5⟩
    · rw [e7]
      simp only [om_0]
      cases rm with
      | none => rw [om_0]
      | some o =>
        rw [om_i]
        by_cases z : inb (rF uc 0 6) 4
        · obtain ⟨k, hk, -, e⟩ := hrm.1 z
          cases e
          rw [ck_t (rn_room hk)]
        · have := hrm.2 z
          cases this
    · have hK4 : K = 4 := by
        have : ¬ K < 4 := fun z => w ⟨e5, z⟩
        omega
      have er : rm = none := hrm.2 (by
        rw [s1, hK4]
        intro z
        exact absurd z.2 (by decide))
      rw [er, om_0, e7, om_i, ck_t h116]
  · have hR := r8 e5
    have e7 : rG uc 0 7 = some 116 := r6.mpr e5
    have hro := r1.1.2.2.2.2.1 4 (Or.inr ⟨rfl, e5⟩)
    have hw' := hro.2.2.2.2.2.2.1
    have hCk := hro.2.2.2.2.2.2.2.2
    obtain ⟨k, hk, ek, er⟩ := hrm.1 (by rw [s1]; exact inb_nI w (by decide))
    have ekK : k = K := nI_inj (by omega) (by omega) (ek.symm.trans s1)
    subst ekK
    have hst := c_status (F := F) r1 e5 hR r3
    obtain ⟨a1, a2, a3, a4, a5, a6, N, hS⟩ := id hR
    obtain ⟨-, -, nH', f, hH1, hH64, -⟩ := id a4
    obtain ⟨V, t1, t2, t3, t4, t5, t6, t7, t8, t9, t10, t11⟩ := c_take7 (F := F) (o0 := 151 + 34 * k) (o1 := 116) (u := uc) (x := stM um W) (by omega) a2.1 hw'.1.2.2.1 hS.2.2.2.1.1 hS.2.2.2.1.2.1 a3.1 hCk.1 hH1 hH64 hS.1 hS.2.1 hF
    have hans : g_X9_keep F uc = some (nI k, sF V 0 6 (nI (k + 1))) := by
      unfold g_X9_keep
      rw [erm, ob_i, er, om_i, ck_t (rn_room hk), e7]
      simp only [om_i]
      rw [ck_t h116, ck_t h116, ck_t h116, hst, ob_i, t1, ob_i, lt1_i]
      have e6 : rF V 0 6 = nI k := (t4 _ (by omega)).trans ek
      rw [e6, nI_1]
      have : rF (sF V 0 6 (nI (k + 1))) 0 6 - 1 = nI k := by
        rw [sF_y]
        exact nI_pred k
      rw [this]
    refine ⟨_, _, hans, q, rfl, ?_⟩
    have cf : ∀ i, i ≠ 6 → (i < 100 * (151 + 34 * k) ∨ 100 * (151 + 34 * k + 34) ≤ i) → (sF V 0 6 (nI (k + 1))).1 i = uc.1 i := fun i i1 i2 => (sF_n (by omega)).trans (t4 i i2)
    have ca : ∀ j, (j ≤ 151 + 34 * k ∨ 151 + 34 * k + 33 < j) → (sF V 0 6 (nI (k + 1))).2.1 j = uc.2.1 j := fun j hj => t3 j hj
    have hg4 : agR um um' 4 := k1 4 (by omega) (by omega)
    have e5' : um'.2.1 5 4 = 1 := hok.1.2.1.2.1 (by omega)
    refine ⟨k + 1, W, hok, tt_get (P := fun z => okX z.2) (ox_keep r2 hF) hans, OutR_c r3 (cf _ (by omega) (by omega)) (cf _ (by omega) (by omega)) (cf _ (by omega) (by omega)) (ca 7 (by omega)) (k5 29 (by omega)) (k4 34 (by omega)), WR_c r4 (cf _ (by omega) (by omega)) (cf _ (by omega) (by omega)) (k5 30 (by omega)), ⟨sF_y, (cf _ (by omega) (by omega)).trans (s2.trans (k4 _ (by omega)).symm), (cf _ (by omega) (by omega)).trans (s3.trans (k4 _ (by omega)).symm), (cf _ (by omega) (by omega)).trans (s4.trans (k4 _ (by omega)).symm), fun hb => (cf _ (by omega) (by omega)).trans ((s5 hb).trans (k4 _ (by omega)).symm)⟩, ?_, fun z i hz hi => ?_, fun _ => RR_f (RR_g hR hCk.1 hg4) (fun j j1 j2 => ca j (by omega)) (fun i i1 i2 => cf i (by omega) (by omega)), fun r hr => ?_⟩
    · rw [show rG (sF V 0 6 (nI (k + 1))) 0 7 = rG uc 0 7 by unfold rG; show V.2.2.1 _ = _; rw [t2], e5']
      exact ⟨fun _ => rfl, fun _ => e7⟩
    · rw [ca _ (by omega), k5 _ (by omega)]
      exact r7 z i hz hi
    · rcases Nat.lt_or_ge r k with y | y
      · obtain ⟨b1, b2⟩ := r9 r y
        have hgr := k1 r (by omega) (by omega)
        refine ⟨RR_f (RR_g b1 (Cr100 r1.1 (Or.inl y)) hgr) (fun j j1 j2 => ca j (by omega)) (fun i i1 i2 => cf i (by omega) (by omega)), ?_⟩
        rw [hgr.2.2.1 22 (Or.inr (Or.inr (by decide)))]
        exact (cf _ (by omega) (by omega)).trans b2
      · have erk : r = k := by omega
        subst erk
        have hRV : RR pB V um' (151 + 34 * r) r := RR_mv (P := N) (H := nH') (T := Tr um 4) hR hro k2 rfl rfl hS.2.2.2.1.1 hS.2.2.2.1.2.1 hH1 hH64 rfl t5 t6 ⟨t7, t8, t9, t10⟩
        refine ⟨RR_f hRV (fun _ _ _ => rfl) (fun i i1 _ => sF_n (by omega)), ?_⟩
        rw [k3]
        exact (sF_n (by omega)).trans t11
theorem begun_fr {r : Nat} (hr : r < 4) (hA : ∀ j i, um'.2.1 j i = m_begunA um j i) : agR um um' r := by
  have key : ∀ j i, j ≠ 28 → j ≠ 5 → (i < 256 ∨ ¬ (6 ≤ j ∧ j ≤ 9)) → (i ≠ 4 ∨ (j ≠ 27 ∧ j ≠ 26 ∧ j ≠ 25 ∧ j ≠ 24 ∧ j ≠ 23 ∧ j ≠ 21 ∧ j ≠ 19 ∧ j ≠ 15)) → (i < 12004 ∨ j ≠ 20) → um'.2.1 j i = um.2.1 j i := fun j i h1 h2 h3 h4 h5 => by
    rw [hA]
    unfold m_begunA
    rw [if_neg (by omega), if_neg (by omega), if_neg (by omega), if_neg (by omega), if_neg (by omega), if_neg (by omega), if_neg (by omega), if_neg (by omega), if_neg (by omega), if_neg (by omega), if_neg (by omega), if_neg (by omega)]
  refine ⟨fun j a b k c => key j _ (by omega) (by omega) (by omega) (by omega) (by omega), fun j a b k c => key j _ (by omega) (by omega) (by omega) (by omega) (by omega), fun j a => ?_, fun j a b k c => key j _ (by omega) (by omega) (by omega) (by omega) (by omega), fun k c => key 20 _ (by omega) (by omega) (by omega) (by omega) (by omega)⟩
  have : (j = 15 ∨ j = 19 ∨ (21 ≤ j ∧ j ≤ 27)) := a
  exact key j _ (by omega) (by omega) (by omega) (by omega) (by omega)
theorem sb_begin (hF : 10000 < F) : SB pB (g_X9_begin F) (g_X10_begin F) := fun uc um h => by
  obtain ⟨K, W, r1, r2, r3, r4, ⟨s1, s2, s3, s4, s5⟩, r6, r7, r8, r9⟩ := id h
  obtain ⟨v, v1, v2, v3⟩ := c_begin (F := F) (u := uc) hF
  obtain ⟨um', q, hok, m1, m2⟩ := m_beginM (F := F) r1 hF
  obtain ⟨U, D, hU, hD, hU1, hU2, hD1, hD2⟩ := r1.1.2.2.2.1
  obtain ⟨A, o1, o2, o3⟩ := id r3
  have e5' : um'.2.1 5 4 = 1 := by
    rw [m2]
    unfold m_begunA
    rw [if_neg (by omega), if_neg (by omega), if_neg (by omega), if_neg (by omega), if_neg (by omega), if_neg (by omega), if_neg (by omega), if_neg (by omega), if_neg (by omega), if_neg (by omega), if_pos ⟨rfl, rfl⟩]
  have hcnt : cntK (uc.2.1 2) 64 = cntK (um.2.1 1) 64 := cntK_c 64 (fun i hi => r7 0 i (by omega) hi)
  have hlow : ∀ j i, (j < 5 ∨ (29 ≤ j ∧ j ≤ 30)) → um'.2.1 j i = um.2.1 j i := fun j i hj => by
    rw [m2]
    unfold m_begunA
    rw [if_neg (by omega), if_neg (by omega), if_neg (by omega), if_neg (by omega), if_neg (by omega), if_neg (by omega), if_neg (by omega), if_neg (by omega), if_neg (by omega), if_neg (by omega), if_neg (by omega), if_neg (by omega)]
  have mf : ∀ k, k ≠ 33 → k ≠ 41 → um'.1 k = um.1 k := fun k k1 k2 => by rw [m1, pk_un k2, pk_un k1]
  have hro' := hok.1.2.2.2.2.1 4 (Or.inr ⟨rfl, e5'⟩)
  have vf : ∀ k, v.1 k = uc.1 k := fun k => by rw [v1.1]; rfl
  have hnew : RR pB (sF (sF (c_begun v) 6 1 0) 6 2 0) um' 116 4 := RR_new (U := U) (D := D) (fun z k hz hk => by rw [v2, if_pos (by omega), show 118 + z - 116 = 2 + z by omega]; exact r7 z k hz hk) ((vf _).trans s3) ((vf _).trans s4) hU hD hro'.2.2.2.2.2.2.1.1.1 hU2 hD2 m2
  have cf : ∀ k, (k < 601 ∨ k = 603 ∨ 15000 ≤ k) → (sF (sF (c_begun v) 6 1 0) 6 2 0).1 k = uc.1 k := fun k hk => by
    rw [← vf k, sF_n (by omega), sF_n (by omega)]
    unfold c_begun
    rw [sF_n (by omega), sF_n (by omega), sF_n (by omega), sF_n (by omega), sF_n (by omega)]
    show (sF (sF (sA (sF (sF (sF (sFill (sF (sF v 122 5 0) 128 11 0) 139 40 (-1)) 140 3 0) 144 3 (rF v 0 9)) 144 4 (rF v 0 10)) 145 0 0) 144 1 1) 144 2 1).1 k = _
    rw [sF_n (by omega), sF_n (by omega)]
    show (sF (sF (sF (sFill (sF (sF v 122 5 0) 128 11 0) 139 40 (-1)) 140 3 0) 144 3 (rF v 0 9)) 144 4 (rF v 0 10)).1 k = _
    rw [sF_n (by omega), sF_n (by omega), sF_n (by omega)]
    show (sF (sF v 122 5 0) 128 11 0).1 k = _
    rw [sF_n (by omega), sF_n (by omega)]
  have ca : ∀ j, (j < 118 ∨ 149 < j) → (sF (sF (c_begun v) 6 1 0) 6 2 0).2.1 j = uc.2.1 j := fun j hj => by
    have e0 : (sF (sF (c_begun v) 6 1 0) 6 2 0).2.1 j = v.2.1 j := by
      show (c_begun v).2.1 j = _
      unfold c_begun sA
      show (rg_R (rg_R (rg_R (rg_R (sF (sF (rg_R _ 145 _ 0) 144 1 1) 144 2 1) 146 _ 0) 147 _ 0) 148 _ 0) 149 _ (-1)).2.1 j = _
      rw [R_n (by omega), R_n (by omega), R_n (by omega), R_n (by omega)]
      show (rg_R _ 145 _ 0).2.1 j = _
      rw [R_n (by omega)]
      show va_up v.2.1 139 _ j = _
      exact pm_up_n (by omega)
    rw [e0]
    funext i
    rw [v2, if_neg (by omega)]
  have hz := tt_get (P := fun z => okX z.2) (ox_begin r2 hF) v3
  refine ⟨_, _, v3, q, by dsimp only; rw [hcnt], K, 0, hok, hz, ⟨0, ⟨?_, sF_y, by omega, by omega⟩, fun i hi => by omega, ?_⟩, WR_c r4 (cf _ (by omega)) (cf _ (by omega)) (funext fun i => hlow 30 i (by omega)), ⟨(cf _ (by omega)).trans s1, (cf _ (by omega)).trans (s2.trans (mf _ (by omega) (by omega)).symm), (cf _ (by omega)).trans (s3.trans (mf _ (by omega) (by omega)).symm), (cf _ (by omega)).trans (s4.trans (mf _ (by omega) (by omega)).symm), fun hb => (cf _ (by omega)).trans ((s5 hb).trans (mf _ (by omega) (by omega)).symm)⟩, ?_, fun z k hz hk => ?_, fun _ => hnew, Rel_kept r1 r9 (fun j hj => ca j (by omega)) (fun k hk => cf k (by omega)) (fun r hr => begun_fr hr m2)⟩
  · show (sF (sF (c_begun v) 6 1 0) 6 2 0).1 (100 * 6 + 1) = _
    rw [sF_n (by omega)]
    exact sF_y
  · exact (cf _ (by omega)).trans (o3.trans (mf _ (by omega) (by omega)).symm)
  · rw [e5']
    refine ⟨fun _ => rfl, fun _ => ?_⟩
    show v.2.2.1 7 = _
    rw [v1.2]
    rfl
  · rw [ca _ (by omega), hlow _ _ (by omega)]
    exact r7 z k hz hk
end YD
