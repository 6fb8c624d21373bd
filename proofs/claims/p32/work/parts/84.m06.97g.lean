section W_21
-- 97g.goes
theorem m_goesOn {F K W : Nat} {u : rg_U} (h : okM u K W) (h1 : u.2.1 5 4 = 1) (hs : stM u W = 0) (hT : Tr u 4 < 3000) (hF : 10000 < F) : ∃ u' v W' n', g_X10_goesOn F u = some u' ∧ okM u' K W' ∧ u'.2.1 5 4 = 1 ∧ goT F u = some v ∧ tkD u v W W' n' ∧ goD u u' v n' (mstep (Pm u 4) (u.2.1 28) ((Lm v 4).2.2.1 (nr u 4)) (nI (nr u 4))) := by
  obtain ⟨v, W', n', e1, dT, f1, f33, a1, fr1, a15, ag, hW'⟩ := m_take h.1 h1 hs hF
  have hro := h.1.2.2.2.2.1 4 (Or.inr ⟨rfl, h1⟩)
  obtain ⟨r1, r2, r3, r4, r5, r6, r7, r8, r9⟩ := id hro
  have hn8 := r7.1.2.2.1
  obtain ⟨hR, hTm⟩ := live_ok h.1 h1
  obtain ⟨⟨cn, hc1, hc2⟩, d, hd1, hd2, -⟩ := id hR
  have hlv := h.1.2.2.2.2.2.1 h1
  -- the log that the step goes by
  have ePv : Pm v 4 = Pm u 4 := by
    unfold Pm
    rw [a1 6 (by omega) (by decide), a1 7 (by omega) (by decide), a1 8 (by omega) (by decide), a1 9 (by omega) (by decide)]
  have e28 : v.2.1 28 = u.2.1 28 := a1 28 (by omega) (by decide)
  have hlive : (rp (Pm u 4) (Lm u 4) (nr u 4) (Tr u 4)).1 = u.2.1 28 := hlv.symm
  have htk : tk (Pm u 4) (u.2.1 28) ↔ (kn u = 19 ∨ kn u = 20) := Iff.rfl
  have hy : tk (Pm u 4) (u.2.1 28) → n' = nr u 4 + 1 ∧ ¬ (Lm v 4).2.1 (nr u 4) = 2 ∧ (Lm v 4).1 (nr u 4) = nI (Tr u 4) ∧ nr u 4 < 800 := by
    intro q
    rcases dT with ⟨z1, z2, z3, z4, z5, z6, z7⟩ | ⟨z1, z2, z3, z4, z5, z6⟩ | ⟨z1, z2, z3⟩
    · exact ⟨z5, by rw [z6.2.1]; decide, z6.1, z3⟩
    · exact ⟨z4, by rw [z5.2.1]; decide, z5.1, z2⟩
    · exact absurd q (fun y => y.elim z1 z2)
  have hno : ¬ tk (Pm u 4) (u.2.1 28) → n' = nr u 4 := by
    intro q
    rcases dT with ⟨z1, z2, z3, z4, z5, z6, z7⟩ | ⟨z1, z2, z3, z4, z5, z6⟩ | ⟨z1, z2, z3, z4, z5⟩
    · exact absurd (Or.inl z1) q
    · exact absurd (Or.inr z1) q
    · exact z5
  have hnum : mstep (Pm u 4) (u.2.1 28) (v.2.1 12 (800 * 4 + nr u 4)) (nI (nr u 4)) = mstep (Pm u 4) (u.2.1 28) ((Lm v 4).2.2.1 (nr u 4)) (nI (nr u 4)) := by
    by_cases q : tk (Pm u 4) (u.2.1 28)
    · rw [Lm_2 (hy q).2.2.2]
    · exact step_num r7.1.1 hR (fun z => q (Or.inl z)) (fun z => q (Or.inr z))
  have hst := m_steps (F := F) (o := 28) (r := 4) (cn := cn) (d := d) (ee := nr u 4) (u := v) (by decide) (by decide) (by rw [ePv]; exact r7.1.1) (by rw [e28]; exact hc2) hc1 (by rw [e28]; exact hd2) hd1 (by rw [ePv, ← hc2]; intro q; have := (hy q).2.2.2; omega)
  rw [ePv, e28, hnum] at hst
  obtain ⟨sr1, sr2⟩ := step_rp (P := Pm u 4) (L := Lm u 4) (L' := Lm v 4) (n' := n') r7 ag (by rw [hlive]; exact fun q => ⟨(hy q).1, (hy q).2.1⟩) (by rw [hlive]; exact hno)
  have okw := okW_step (n' := n') r7 ag (by rw [hlive]; exact hy) (by rw [hlive]; exact hno) hT (by
    rw [hlive]
    unfold stM at hs
    by_cases z : u.2.1 28 132 = 0
    · exact z
    · rw [if_neg z] at hs; exact absurd hs z)
  rw [hlive] at sr2
  generalize hz : mstep (Pm u 4) (u.2.1 28) ((Lm v 4).2.2.1 (nr u 4)) (nI (nr u 4)) = z at *
  -- the calls
  have hC100 := r9.1
  obtain ⟨s3, es3, s3f, s3a, s3c⟩ : ∃ s3, g_X10_goesOn_j52 F (kn u) (nI (nr u 4)) v = g_X10_goesOn_j165 F s3 ∧ s3.1 = (sTp v 28 z).1 ∧ (∀ j, (j < 16 ∨ 19 < j) → s3.2.1 j = (sTp v 28 z).2.1 j) ∧ ((isCall u z ∧ s3 = calS (sTp v 28 z) (Cr u 4) (nI (Tr u 4)) (z.1 120) (u.2.1 28 121)) ∨ (¬ isCall u z ∧ s3 = sTp v 28 z)) := by
    unfold g_X10_goesOn_j52
    rw [ck_t (by decide), show g_X10_steps F 28 134 4 (nI (nr u 4)) v = some (sTp v 28 z) from hst, ob_i]
    have e37 : rF (sTp v 28 z) 0 37 = z.2.1 := by
      show upd (upd (upd v.1 37 z.2.1) 38 z.2.2.1) 39 z.2.2.2 37 = _
      rw [pk_un (by decide), pk_un (by decide), pk_us]
    have e19 : rA (sTp v 28 z) 19 4 = nI (Cr u 4) := by
      show (sTp v 28 z).2.1 19 4 = _
      have : (sTp v 28 z).2.1 19 = v.2.1 19 := rw_ne (by decide)
      rw [this, a1 19 (by omega) (by decide)]
      exact r5
    have e21 : rA (sTp v 28 z) 21 4 = nI (Tr u 4) := by
      show (sTp v 28 z).2.1 21 4 = _
      have : (sTp v 28 z).2.1 21 = v.2.1 21 := rw_ne (by decide)
      rw [this, a1 21 (by omega) (by decide)]
      exact r2
    rw [e37]
    by_cases k17 : kn u = 17
    · rw [if_pos k17]
      by_cases q2 : z.2.1 = 0
      · rw [if_pos q2, ck_t (by decide), e19]
        by_cases q3 : Cr u 4 < 100
        · rw [if_neg (show ¬ (100 : Int32) ≤ nI (Cr u 4) from nI_ge (a := Cr u 4) (b := 100) q3 (by decide)), ck_t (by decide), ck_t (by decide), show (400 : Int32) + nI (Cr u 4) = nI (400 + Cr u 4) from nI_add 400 _, ck_t (inb_nI (by omega) (by decide)), e21, lt1_i, sA_nI (by omega), ck_t (by decide), ck_t (by decide)]
          have g19 : rA (rg_R (sTp v 28 z) 16 (400 + Cr u 4) (nI (Tr u 4))) 19 4 = nI (Cr u 4) := e19
          rw [g19, show (400 : Int32) + nI (Cr u 4) = nI (400 + Cr u 4) from nI_add 400 _, ck_t (inb_nI (by omega) (by decide)), lt1_i, sA_nI (by omega), ck_t (by decide)]
          have g28 : rA (rg_R (sTp v 28 z) 16 (400 + Cr u 4) (nI (Tr u 4))) 28 120 = z.1 120 := by
            show (rg_R (sTp v 28 z) 16 (400 + Cr u 4) (nI (Tr u 4))).2.1 28 120 = _
            rw [R_at, if_neg (by omega)]
            exact congrFun rw_at _
          rw [g28]
          have g19' : rA (rg_R (rg_R (sTp v 28 z) 16 (400 + Cr u 4) (nI (Tr u 4))) 17 (400 + Cr u 4) (z.1 120)) 19 4 = nI (Cr u 4) := e19
          rw [g19', show (400 : Int32) + nI (Cr u 4) = nI (400 + Cr u 4) from nI_add 400 _, ck_t (inb_nI (by omega) (by decide)), lt1_i, sA_nI (by omega), ck_t (by decide), ck_t (by decide), lt1_i]
          have g19'' : rA (rg_R (rg_R (rg_R (sTp v 28 z) 16 (400 + Cr u 4) (nI (Tr u 4))) 17 (400 + Cr u 4) (z.1 120)) 18 (400 + Cr u 4) (rA v 28 121)) 19 4 = nI (Cr u 4) := e19
          rw [g19'', nI_1]
          have g121 : rA v 28 121 = u.2.1 28 121 := congrFun e28 121
          rw [g121]
          exact ⟨_, rfl, rfl, fun j hj => calS_n hj, Or.inl ⟨⟨k17, q2, q3⟩, rfl⟩⟩
        · rw [if_pos (show (100 : Int32) ≤ nI (Cr u 4) from nI_le (a := 100) (b := Cr u 4) (by omega) (by omega))]
          exact ⟨_, rfl, rfl, fun _ _ => rfl, Or.inr ⟨fun w => q3 w.2.2, rfl⟩⟩
      · rw [if_neg q2]
        exact ⟨_, rfl, rfl, fun _ _ => rfl, Or.inr ⟨fun w => q2 w.2.1, rfl⟩⟩
    · rw [if_neg k17]
      exact ⟨_, rfl, rfl, fun _ _ => rfl, Or.inr ⟨fun w => k17 w.1, rfl⟩⟩
  have s3n : ∀ j, (j < 10 ∨ 19 < j) → j ≠ 28 → j ≠ 29 → s3.2.1 j = u.2.1 j := fun j h2 h3 h4 => by
    rw [s3a j (by omega)]
    have : (sTp v 28 z).2.1 j = v.2.1 j := rw_ne h3
    rw [this, a1 j (by omega) h4]
  -- the time that comes
  obtain ⟨u', eu', cf, ca, c20, c26, ch⟩ := m_comes (F := F) (t := Tr u 4 + 1) (U := Ur u 4) (D := Dr u 4) (u := rg_R s3 21 4 (nI (Tr u 4 + 1))) (by rw [R_at, if_pos ⟨rfl, rfl⟩]) (by rw [R_at, if_neg (by omega), s3n 23 (by omega) (by decide) (by decide)]; exact r3) (by rw [R_at, if_neg (by omega), s3n 24 (by omega) (by decide) (by decide)]; exact r4) (by omega) (by omega) r6.1 r6.2.1 r6.2.2.2 hF
  have hj165 : g_X10_goesOn_j165 F s3 = some u' := by
    unfold g_X10_goesOn_j165
    have e21 : rA s3 21 4 = nI (Tr u 4) := by
      show s3.2.1 21 4 = _
      rw [s3n 21 (by omega) (by decide) (by decide)]
      exact r2
    rw [ck_t (by decide), ck_t (by decide), e21, nI_1, lt1_i]
    have : sA s3 21 4 (nI (Tr u 4 + 1)) = rg_R s3 21 4 (nI (Tr u 4 + 1)) := rfl
    rw [this, eu', ob_i]
  have hgo : g_X10_goesOn F u = some u' := by
    unfold g_X10_goesOn
    have e120 : rA u 28 120 = nI cn := hc2
    have ekn : kindOf (Pm u 4) (nI cn) = kn u := by unfold kn; rw [hc2]
    rw [ck_t (by decide), e120, show g_X10_kindAt F 4 (nI cn) u = some (kindOf (Pm u 4) (nI cn)) from m_kindAt (r := 4) (by decide) hc1, ob_i, ck_t (by decide), ekn, show rA u 15 4 = nI (nr u 4) from r1]
    unfold goT at e1
    unfold g_X10_goesOn_j32
    by_cases k19 : kn u = 19
    · rw [if_pos k19] at e1
      rw [if_pos k19, e1, ob_i, if_neg (by rw [k19]; decide), es3, hj165]
    · rw [if_neg k19] at e1
      rw [if_neg k19]
      by_cases k20 : kn u = 20
      · rw [if_pos k20] at e1
        have hc64 := (kind_in (P := Pm u 4) hc1 (by rw [ekn, k20]; decide)).1
        rw [hc2, tnn (by omega), Pm_2 hc64] at e1
        rw [if_pos k20, nI_256, ck_t (inb_nI (by omega) (by decide)), rA_nI (by omega), show u.2.1 8 (256 + cn) = u.2.1 8 (64 * 4 + cn) from rfl, e1, ob_i, es3, hj165]
      · rw [if_neg k20] at e1
        cases e1
        rw [if_neg k20, es3, hj165]
  have u'n : ∀ j, j ≠ 20 → j ≠ 21 → j ≠ 26 → u'.2.1 j = s3.2.1 j := fun j h2 h3 h4 => by
    rw [ca j h2 h4]
    exact pm_up_n h3
  have u'o : ∀ j, (j < 10 ∨ (22 ≤ j ∧ j ≠ 26 ∧ j ≠ 28 ∧ j ≠ 29)) → u'.2.1 j = u.2.1 j := fun j hj => by
    rw [u'n j (by omega) (by omega) (by omega), s3n j (by omega) (by omega) (by omega)]
  have u'21 : ∀ i, u'.2.1 21 i = if i = 4 then nI (Tr u 4 + 1) else u.2.1 21 i := fun i => by
    rw [ca 21 (by decide) (by decide), R_at]
    by_cases q : i = 4
    · rw [if_pos ⟨rfl, q⟩, if_pos q]
    · rw [if_neg (fun w => q w.2), if_neg q, s3n 21 (by omega) (by decide) (by decide)]
  have uL : ∀ j, 10 ≤ j → j ≤ 15 → u'.2.1 j = v.2.1 j := fun j h2 h3 => by
    rw [u'n j (by omega) (by omega) (by omega), s3a j (by omega)]
    exact rw_ne (by omega)
  have u28 : u'.2.1 28 = z.1 := by
    rw [u'n 28 (by decide) (by decide) (by decide), s3a 28 (by omega)]
    exact rw_at
  have u29 : u'.2.1 29 = v.2.1 29 := by
    rw [u'n 29 (by decide) (by decide) (by decide), s3a 29 (by omega)]
    exact rw_ne (by decide)
  have uf : ∀ k, k ≠ 37 → k ≠ 38 → k ≠ 39 → u'.1 k = v.1 k := fun k h2 h3 h4 => by
    rw [cf]
    show s3.1 k = _
    rw [s3f]
    show upd (upd (upd v.1 37 z.2.1) 38 z.2.2.1) 39 z.2.2.2 k = _
    rw [pk_un h4, pk_un h3, pk_un h2]
  have eLm : Lm u' 4 = Lm v 4 := by
    unfold Lm
    rw [uL 10 (by decide) (by decide), uL 11 (by decide) (by decide), uL 12 (by decide) (by decide), uL 13 (by decide) (by decide), uL 14 (by decide) (by decide)]
  have ePm : Pm u' 4 = Pm u 4 := by
    unfold Pm
    rw [u'o 6 (by omega), u'o 7 (by omega), u'o 8 (by omega), u'o 9 (by omega)]
  have hn'8 : n' ≤ 800 := okw.1.2.2.1
  have e15' : u'.2.1 15 4 = nI n' := by rw [uL 15 (by decide) (by decide)]; exact a15
  have en' : nr u' 4 = n' := by unfold nr; rw [e15', tnn (by omega)]
  have eT' : Tr u' 4 = Tr u 4 + 1 := by unfold Tr; rw [u'21, if_pos rfl]; exact tnn (by omega)
  have eU' : Ur u' 4 = Ur u 4 := by unfold Ur; rw [u'o 23 (by omega)]
  have eD' : Dr u' 4 = Dr u 4 := by unfold Dr; rw [u'o 24 (by omega)]
  have fr : ∀ r, r < 4 → agR u u' r := fun r hr => by
    have f := fr1 r hr
    refine ⟨fun j b c k e => by rw [u'o j (by omega)], fun j b c k e => by rw [uL j (by omega) (by omega)]; exact f.2.1 j b c k e, fun j b => ?_, fun j b c k e => ?_, fun k c => ?_⟩
    · unfold scal at b
      rcases (show j = 15 ∨ j = 19 ∨ j = 21 ∨ j = 26 ∨ (22 ≤ j ∧ j ≠ 26 ∧ j ≠ 28 ∧ j ≠ 29) by omega) with rfl | rfl | rfl | rfl | q
      · rw [uL 15 (by decide) (by decide)]; exact f.2.2.1 15 (Or.inl rfl)
      · rw [u'n 19 (by decide) (by decide) (by decide)]
        rcases s3c with ⟨-, q⟩ | ⟨-, q⟩
        · rw [q, calS_19, if_neg (by omega)]
          have : (sTp v 28 z).2.1 19 = v.2.1 19 := rw_ne (by decide)
          rw [this, a1 19 (by omega) (by decide)]
        · rw [q]
          have : (sTp v 28 z).2.1 19 = v.2.1 19 := rw_ne (by decide)
          rw [this, a1 19 (by omega) (by decide)]
      · rw [u'21, if_neg (by omega)]
      · rw [c26 r (by omega), R_at, if_neg (by omega), s3n 26 (by omega) (by decide) (by decide)]
      · rw [u'o j (by omega)]
    · rw [u'n j (by omega) (by omega) (by omega)]
      have hv : (sTp v 28 z).2.1 j = u.2.1 j := (rw_ne (by omega)).trans (a1 j (by omega) (by omega))
      rcases s3c with ⟨-, q⟩ | ⟨-, q⟩
      · rw [q, calS_a ⟨b, c⟩, if_neg (by omega), hv]
      · rw [q, hv]
    · rw [c20 _ (by omega), R_at, if_neg (by omega), s3n 20 (by omega) (by decide) (by decide)]
  have hcal : (isCall u z ∧ Cr u' 4 = Cr u 4 + 1 ∧ (∀ j i, 16 ≤ j → j ≤ 18 → i < Cr u 4 → u'.2.1 j (400 + i) = u.2.1 j (400 + i)) ∧ u'.2.1 16 (400 + Cr u 4) = nI (Tr u 4) ∧ u'.2.1 17 (400 + Cr u 4) = z.1 120 ∧ u'.2.1 18 (400 + Cr u 4) = u.2.1 28 121) ∨ (¬ isCall u z ∧ Cr u' 4 = Cr u 4 ∧ ∀ j, 16 ≤ j → j ≤ 18 → u'.2.1 j = u.2.1 j) := by
    have hv : ∀ j, 16 ≤ j → j ≤ 19 → (sTp v 28 z).2.1 j = u.2.1 j := fun j b c => (rw_ne (by omega)).trans (a1 j (by omega) (by omega))
    rcases s3c with ⟨q1, q⟩ | ⟨q1, q⟩
    · refine Or.inl ⟨q1, ?_, fun j i b c e => ?_, ?_, ?_, ?_⟩
      · have e19 : u'.2.1 19 4 = nI (Cr u 4 + 1) := by rw [u'n 19 (by decide) (by decide) (by decide), q, calS_19, if_pos rfl]
        show tn (u'.2.1 19 4) = _
        rw [e19, tnn (by omega)]
      · rw [u'n j (by omega) (by omega) (by omega), q, calS_a ⟨b, c⟩, if_neg (by omega), hv j b (by omega)]
      · rw [u'n 16 (by omega) (by omega) (by omega), q, calS_a (by omega), if_pos rfl]; rfl
      · rw [u'n 17 (by omega) (by omega) (by omega), q, calS_a (by omega), if_pos rfl]; rfl
      · rw [u'n 18 (by omega) (by omega) (by omega), q, calS_a (by omega), if_pos rfl]; rfl
    · refine Or.inr ⟨q1, ?_, fun j b c => ?_⟩
      · unfold Cr; rw [u'n 19 (by decide) (by decide) (by decide), q, hv 19 (by decide) (by decide)]
      · rw [u'n j (by omega) (by omega) (by omega), q, hv j b (by omega)]
  have hheld : (¬ (Tr u 4 + 1) % Ur u 4 = 0 ∧ Hm u' 4 = Hm u 4 ∧ u'.2.1 26 4 = u.2.1 26 4) ∨ ((Tr u 4 + 1) % Ur u 4 = 0 ∧ (∀ k, k ≤ 3000 → Hm u' 4 k = nH (Hm u 4) (Dr u 4) ((Tr u 4 + 1) / Ur u 4) k) ∧ u'.2.1 26 4 = imax (u.2.1 26 4) (nI (cH (Hm u' 4) 3001))) := by
    have eH : Hm (rg_R s3 21 4 (nI (Tr u 4 + 1))) 4 = Hm u 4 := by
      unfold Hm
      have : (rg_R s3 21 4 (nI (Tr u 4 + 1))).2.1 20 = u.2.1 20 := (show (rg_R s3 21 4 (nI (Tr u 4 + 1))).2.1 20 = s3.2.1 20 from rfl).trans (s3n 20 (by omega) (by decide) (by decide))
      rw [this]
    have e26 : (rg_R s3 21 4 (nI (Tr u 4 + 1))).2.1 26 4 = u.2.1 26 4 := by rw [R_at, if_neg (by omega), s3n 26 (by omega) (by decide) (by decide)]
    rcases ch with ⟨q1, q2⟩ | ⟨q1, q2, q3⟩
    · exact Or.inl ⟨q1, by rw [q2]; exact eH, by rw [q2]; exact e26⟩
    · rw [eH] at q2
      rw [e26] at q3
      exact Or.inr ⟨q1, q2, q3⟩
  have hrun : runOK u' 4 := by
    unfold runOK
    rw [en', eT', eU', eD', eLm, ePm]
    refine ⟨e15', by rw [u'21, if_pos rfl], by rw [u'o 23 (by omega)]; exact r3, by rw [u'o 24 (by omega)]; exact r4, ?_, r6, okw, ?_, ?_⟩
    · rcases hcal with ⟨q1, q2, -⟩ | ⟨q1, q2, -⟩
      · rw [q2, u'n 19 (by decide) (by decide) (by decide)]
        rcases s3c with ⟨-, q⟩ | ⟨q, -⟩
        · rw [q, calS_19, if_pos rfl]
        · exact absurd q1 q
      · rw [q2, u'n 19 (by decide) (by decide) (by decide)]
        rcases s3c with ⟨q, -⟩ | ⟨-, q⟩
        · exact absurd q q1
        · rw [q]
          have : (sTp v 28 z).2.1 19 = v.2.1 19 := rw_ne (by decide)
          rw [this, a1 19 (by omega) (by decide)]
          exact r5
    · rcases hheld with ⟨q1, q2, -⟩ | ⟨q1, q2, -⟩
      · rw [q2]; exact okH_m r8 (by omega)
      · exact okH_n r6.1 r8 hT q1 q2
    · obtain ⟨-, ct, g1, g2⟩ := r9
      rcases hcal with ⟨q1, q2, q3, q4, -⟩ | ⟨q1, q2, q3⟩
      · rw [q2]
        have hlt := q1.2.2
        refine ⟨by omega, fun i => if i < Cr u 4 then ct i else Tr u 4, fun i hi => ?_, fun i j hij hj => ?_⟩
        · dsimp only
          by_cases y : i < Cr u 4
          · rw [if_pos y, show 100 * 4 + i = 400 + i by omega, q3 16 i (by omega) (by omega) y]
            exact ⟨(g1 i y).1, by have := (g1 i y).2; omega⟩
          · have : i = Cr u 4 := by omega
            subst this
            rw [if_neg y, show 100 * 4 + Cr u 4 = 400 + Cr u 4 by omega, q4]
            exact ⟨rfl, by omega⟩
        · dsimp only
          rw [if_pos (show i < Cr u 4 by omega)]
          by_cases y : j < Cr u 4
          · rw [if_pos y]; exact g2 i j hij y
          · rw [if_neg y]; exact (g1 i (by omega)).2
      · rw [q2, q3 16 (by decide) (by decide)]
        exact ⟨hC100, ct, fun i hi => ⟨(g1 i hi).1, by have := (g1 i hi).2; omega⟩, g2⟩
  have hrp1 : ∀ t, t ≤ Tr u 4 → rpm u' 4 t = rpm u 4 t := fun t ht => by
    unfold rpm
    rw [en', eLm, ePm]
    exact sr1 t ht
  have hrp2 : rpm u' 4 (Tr u 4 + 1) = (z.1, n') := by
    unfold rpm
    rw [en', eLm, ePm, sr2]
  have u5 : u'.2.1 5 = u.2.1 5 := u'o 5 (by omega)
  subst hz
  refine ⟨u', v, W', n', hgo, ⟨core_now h.1 fr ⟨?_, ?_, ?_, ?_⟩ (fun j b c => u'o j (by omega)) (u'o 30 (by omega)) (fun r _ => by rw [u5]) (by rw [u5]; exact h1) hrun (by rw [eT', hrp2, u28]) ⟨by rw [uf 33 (by decide) (by decide) (by decide)]; exact f33, by rw [eLm, en']; exact hW'⟩, ?_⟩, by rw [u5]; exact h1, e1, dT, ⟨u28, en', eT', eLm, u29, uf 33 (by decide) (by decide) (by decide), uf 34 (by decide) (by decide) (by decide)⟩, fun k b c d e f => by rw [uf k d e f, f1 k b c], u'o, fr, hcal, hheld, hrp1, hrp2⟩
  · rw [uf 4 (by decide) (by decide) (by decide), f1 4 (by decide) (by decide)]
  · rw [uf 5 (by decide) (by decide) (by decide), f1 5 (by decide) (by decide)]
  · rw [uf 29 (by decide) (by decide) (by decide), f1 29 (by decide) (by decide)]
  · rw [uf 30 (by decide) (by decide) (by decide), f1 30 (by decide) (by decide)]
  · have h41 : u'.1 41 = u.1 41 := by rw [uf 41 (by decide) (by decide) (by decide), f1 41 (by decide) (by decide)]
    have h42 : u'.1 42 = u.1 42 := by rw [uf 42 (by decide) (by decide) (by decide), f1 42 (by decide) (by decide)]
    have h31 := u'o 31 (by omega)
    obtain ⟨s1, s2, s4, s5, s6⟩ := h.2
    refine ⟨?_, fun r hr => ?_, ?_, by rw [h31]; exact s5, by rw [u'o 37 (by omega)]; exact s6⟩
    · rw [h41]
      rcases s1 with q3 | ⟨r, q3, q4⟩
      · exact Or.inl q3
      · exact Or.inr ⟨r, by unfold act at q3 ⊢; rw [u5]; exact q3, q4⟩
    · have hr' : act u K r := by unfold act at hr ⊢; rw [← u5]; exact hr
      have hs2 := s2 r hr'
      intro q
      rw [h41] at q
      obtain ⟨t, b1, b2, b3⟩ := hs2 q
      rcases hr' with hlt | ⟨rfl, -⟩
      · have g := fr r (by have := h.1.1.2.1; omega)
        exact ⟨t, by rw [(sc_g g).2.1]; exact b1, by rw [h31, Pm_g g, Lm_g g, (sc_g g).1]; exact b2, by rw [h42, Pm_g g, Lm_g g, (sc_g g).1]; exact b3⟩
      · have e := hrp1 t b1
        unfold rpm at e
        exact ⟨t, by omega, by rw [h31, e]; exact b2, by rw [h42, e]; exact b3⟩
    · intro i hi
      have e : u'.2.1 28 = (rpm u' 4 (Tr u' 4)).1 := by rw [eT', hrp2, u28]
      rw [e]
      exact rpm_z hrun (Nat.le_refl _) i hi
end W_21
section W_22
-- 97h.keep
/-! keep -/
/-- of each array j the block of run 4 lies also at K, where E j says how long it is (0: not) -/
def CP (u s : rg_U) (K : Nat) (E : Nat → Nat) : Prop := s.1 = u.1 ∧ ∀ j i, s.2.1 j i = if 0 < E j ∧ E j * K ≤ i ∧ i < E j * K + E j then u.2.1 j (i - E j * K + E j * 4) else u.2.1 j i
def eup (E : Nat → Nat) (j e : Nat) : Nat → Nat := fun k => if k = j then e else E k
theorem CP_0 {u : rg_U} {K : Nat} : CP u u K (fun _ => 0) := ⟨rfl, fun j i => (if_neg (fun z => absurd z.1 (Nat.lt_irrefl 0))).symm⟩
theorem cp_step {F o N e K : Nat} {u s : rg_U} {E : Nat → Nat} (h : CP u s K E) (hE : E o = 0) (he : 0 < e) (heN : e * 5 ≤ N) (hN : N ≤ 20000) (hK : K < 4) (hF : 10000 < F) (hs : e ≤ 4000) : ∃ s', g_X10_copies F o N (nI e) 4 (nI K) s = some s' ∧ CP u s' K (eup E o e) := by
  have heK : e * K ≤ e * 3 := Nat.mul_le_mul_left e (by omega)
  unfold g_X10_copies
  obtain ⟨r, e1, hr⟩ := lp_ex (body := fun (s : Int32 × rg_U) => g_X10_copies_l3 F o N (nI e) 4 (nI K) s.1 s.2) (P := fun k q => ∃ m, k + m = e ∧ q.1 = nI m ∧ q.2.1 = u.1 ∧ ∀ j i, q.2.2.1 j i = if j = o then (if e * K ≤ i ∧ i < e * K + m then u.2.1 o (i - e * K + e * 4) else u.2.1 o i) else s.2.1 j i) (R := fun v => CP u v K (eup E o e)) (by
    rintro k ⟨q1, q2⟩ ⟨m, hm, e2, e3, hv⟩
    dsimp only at e2 e3 hv
    subst e2
    unfold g_X10_copies_l3
    dsimp only
    by_cases q : m = e
    · right
      subst q
      refine ⟨q2, if_pos (nI_le (Nat.le_refl _) (by omega)), e3, fun j i => ?_⟩
      rw [hv j i]
      unfold eup
      by_cases z : j = o
      · subst z
        rw [if_pos rfl, if_pos rfl]
        by_cases y : m * K ≤ i ∧ i < m * K + m
        · rw [if_pos y, if_pos ⟨he, y⟩]
        · rw [if_neg y, if_neg (fun w => y w.2)]
      · rw [if_neg z, if_neg z, h.2 j i]
    · left
      have hme : m < e := by omega
      rw [if_neg (nI_ge hme (by omega)), show nI e * 4 = nI (e * 4) from pk_mul e 4, pk_mul, nI_add, nI_add, ck_t (inb_nI (by omega) (by omega)), ck_t (inb_nI (by omega) (by omega)), lt1_i, sA_nI (by omega), rA_nI (by omega), nI_1]
      refine ⟨_, k - 1, rfl, by omega, m + 1, by omega, rfl, e3, fun j i => ?_⟩
      rw [R_at, hv j i, hv o (e * 4 + m), if_pos rfl, if_neg (show ¬ (e * K ≤ e * 4 + m ∧ e * 4 + m < e * K + m) by omega)]
      by_cases z : j = o
      · rw [if_pos z, if_pos z]
        by_cases y : i = e * K + m
        · rw [if_pos ⟨z, y⟩, if_pos (show e * K ≤ i ∧ i < e * K + (m + 1) by omega), show i - e * K + e * 4 = e * 4 + m by omega]
        · rw [if_neg (fun w => y w.2)]
          by_cases x : e * K ≤ i ∧ i < e * K + m
          · rw [if_pos x, if_pos (show e * K ≤ i ∧ i < e * K + (m + 1) by omega)]
          · rw [if_neg x, if_neg (show ¬ (e * K ≤ i ∧ i < e * K + (m + 1)) by omega)]
      · rw [if_neg (fun w => z w.1), if_neg z, if_neg z]) F e ((0 : Int32), s) (by omega) ⟨0, by omega, rfl, h.1, fun j i => by
        by_cases z : j = o
        · rw [if_pos z, if_neg (by omega), z]
          show s.2.1 o i = _
          rw [h.2 o i, hE, if_neg (by omega)]
        · rw [if_neg z]⟩
  exact ⟨r, by rw [ob_e e1], hr⟩
theorem cp_held {F K : Nat} {u s : rg_U} {E : Nat → Nat} (h : CP u s K E) (hE : E 20 = 0) (hb : ∀ i, 12004 ≤ i → i < 15005 → u.2.1 20 i = 0 ∨ u.2.1 20 i = 1) (hK : K < 4) (hF : 10000 < F) : ∃ s', lp (fun (s : Int32 × rg_U) => g_X10_keep_l183 F (nI K) s.1 s.2) F ((0 : Int32), s) = some s' ∧ CP u s' K (eup E 20 3001) := by
  refine lp_ex (body := fun (s : Int32 × rg_U) => g_X10_keep_l183 F (nI K) s.1 s.2) (P := fun k q => ∃ m, k + m = 3001 ∧ q.1 = nI m ∧ q.2.1 = u.1 ∧ ∀ j i, q.2.2.1 j i = if j = 20 then (if 3001 * K ≤ i ∧ i < 3001 * K + m then u.2.1 20 (i - 3001 * K + 3001 * 4) else u.2.1 20 i) else s.2.1 j i) (R := fun v => CP u v K (eup E 20 3001)) ?_ F 3001 ((0 : Int32), s) (by omega) ⟨0, by omega, rfl, h.1, fun j i => by
        by_cases z : j = 20
        · rw [if_pos z, if_neg (by omega), z]
          show s.2.1 20 i = _
          rw [h.2 20 i, hE, if_neg (by omega)]
        · rw [if_neg z]⟩
  rintro k ⟨q1, q2⟩ ⟨m, hm, e2, e3, hv⟩
  dsimp only at e2 e3 hv
  subst e2
  unfold g_X10_keep_l183
  dsimp only
  by_cases q : m = 3001
  · right
    subst q
    refine ⟨q2, if_pos (by decide), e3, fun j i => ?_⟩
    rw [hv j i]
    unfold eup
    by_cases z : j = 20
    · subst z
      rw [if_pos rfl, if_pos rfl]
      by_cases y : 3001 * K ≤ i ∧ i < 3001 * K + 3001
      · rw [if_pos y, if_pos ⟨by omega, y⟩]
      · rw [if_neg y, if_neg (fun w => y w.2)]
    · rw [if_neg z, if_neg z, h.2 j i]
  · left
    have hme : m < 3001 := by omega
    rw [if_neg (show ¬ (3000 : Int32) < nI m from nI_nlt (a := 3000) (b := m) (by omega) (by decide)), show g_X10_heldAt 4 (nI m) = nI (3001 * 4 + m) from heldAt_nI (r := 4) (k := m), heldAt_nI, ck_t (inb_nI (by omega) (by decide)), ck_t (inb_nI (by omega) (by decide)), lt1_i, sZ_nI (by omega), rA_nI (by omega), nI_1]
    have ev : q2.2.1 20 (3001 * 4 + m) = u.2.1 20 (3001 * 4 + m) := by rw [hv, if_pos rfl, if_neg (by omega)]
    rw [ev, vnb (hb _ (by omega) (by omega))]
    refine ⟨_, k - 1, rfl, by omega, m + 1, by omega, rfl, e3, fun j i => ?_⟩
    rw [R_at, hv j i]
    by_cases z : j = 20
    · rw [if_pos z, if_pos z]
      by_cases y : i = 3001 * K + m
      · rw [if_pos ⟨z, y⟩, if_pos (show 3001 * K ≤ i ∧ i < 3001 * K + (m + 1) by omega), show i - 3001 * K + 3001 * 4 = 3001 * 4 + m by omega]
      · rw [if_neg (fun w => y w.2)]
        by_cases x : 3001 * K ≤ i ∧ i < 3001 * K + m
        · rw [if_pos x, if_pos (show 3001 * K ≤ i ∧ i < 3001 * K + (m + 1) by omega)]
        · rw [if_neg x, if_neg (show ¬ (3001 * K ≤ i ∧ i < 3001 * K + (m + 1)) by omega)]
    · rw [if_neg (fun w => z w.1), if_neg z, if_neg z]
def kE : Nat → Nat := eup (eup (eup (eup (eup (eup (eup (eup (eup (eup (eup (eup (eup (eup (eup (eup (eup (eup (eup (eup (eup (fun _ => 0) 6 64) 7 64) 8 64) 9 64) 10 800) 11 800) 12 800) 13 800) 14 800) 15 1) 16 100) 17 100) 18 100) 19 1) 20 3001) 21 1) 23 1) 24 1) 25 1) 26 1) 27 1
theorem kE_v (j : Nat) : kE j = if 6 ≤ j ∧ j ≤ 9 then 64 else if 10 ≤ j ∧ j ≤ 14 then 800 else if 16 ≤ j ∧ j ≤ 18 then 100 else if j = 20 then 3001 else if j = 15 ∨ j = 19 ∨ j = 21 ∨ (23 ≤ j ∧ j ≤ 27) then 1 else 0 := by
  unfold kE eup
  by_cases h : j < 28
  · rcases (show j = 0 ∨ j = 1 ∨ j = 2 ∨ j = 3 ∨ j = 4 ∨ j = 5 ∨ j = 6 ∨ j = 7 ∨ j = 8 ∨ j = 9 ∨ j = 10 ∨ j = 11 ∨ j = 12 ∨ j = 13 ∨ j = 14 ∨ j = 15 ∨ j = 16 ∨ j = 17 ∨ j = 18 ∨ j = 19 ∨ j = 20 ∨ j = 21 ∨ j = 22 ∨ j = 23 ∨ j = 24 ∨ j = 25 ∨ j = 26 ∨ j = 27 by omega) with rfl | rfl | rfl | rfl | rfl | rfl | rfl | rfl | rfl | rfl | rfl | rfl | rfl | rfl | rfl | rfl | rfl | rfl | rfl | rfl | rfl | rfl | rfl | rfl | rfl | rfl | rfl | rfl <;> rfl
  · simp only [show ¬ j = 27 by omega, show ¬ j = 26 by omega, show ¬ j = 25 by omega, show ¬ j = 24 by omega, show ¬ j = 23 by omega, show ¬ j = 21 by omega, show ¬ j = 20 by omega, show ¬ j = 19 by omega, show ¬ j = 18 by omega, show ¬ j = 17 by omega, show ¬ j = 16 by omega, show ¬ j = 15 by omega, show ¬ j = 14 by omega, show ¬ j = 13 by omega, show ¬ j = 12 by omega, show ¬ j = 11 by omega, show ¬ j = 10 by omega, show ¬ j = 9 by omega, show ¬ j = 8 by omega, show ¬ j = 7 by omega, show ¬ j = 6 by omega, if_false]
    rw [if_neg (show ¬ (6 ≤ j ∧ j ≤ 9) by omega), if_neg (show ¬ (10 ≤ j ∧ j ≤ 14) by omega), if_neg (show ¬ (16 ≤ j ∧ j ≤ 18) by omega)]
    simp only [false_or]
    rw [if_neg (show ¬ (23 ≤ j ∧ j ≤ 27) by omega)]
/-- run r of u is run q of u' -/
def mvR (u u' : rg_U) (r q : Nat) : Prop := (∀ j, 6 ≤ j → j ≤ 9 → ∀ k, k < 64 → u'.2.1 j (64 * q + k) = u.2.1 j (64 * r + k)) ∧ (∀ j, 10 ≤ j → j ≤ 14 → ∀ k, k < 800 → u'.2.1 j (800 * q + k) = u.2.1 j (800 * r + k)) ∧ (∀ j, scal j → j ≠ 22 → u'.2.1 j q = u.2.1 j r) ∧ (∀ j, 16 ≤ j → j ≤ 18 → ∀ k, k < 100 → u'.2.1 j (100 * q + k) = u.2.1 j (100 * r + k)) ∧ ∀ k, k < 3001 → u'.2.1 20 (3001 * q + k) = u.2.1 20 (3001 * r + k)
theorem mv_e {u u' : rg_U} {r q : Nat} (h : mvR u u' r q) : Pm u' q = Pm u r ∧ Lm u' q = Lm u r ∧ Hm u' q = Hm u r ∧ nr u' q = nr u r ∧ Tr u' q = Tr u r ∧ Ur u' q = Ur u r ∧ Dr u' q = Dr u r ∧ Cr u' q = Cr u r := by
  unfold Pm Lm Hm nr Tr Ur Dr Cr
  rw [ct_c (fun k hk => h.1 6 (by decide) (by decide) k hk), ct_c (fun k hk => h.1 7 (by decide) (by decide) k hk), ct_c (fun k hk => h.1 8 (by decide) (by decide) k hk), ct_c (fun k hk => h.1 9 (by decide) (by decide) k hk), ct_c (fun k hk => h.2.1 10 (by decide) (by decide) k hk), ct_c (fun k hk => h.2.1 11 (by decide) (by decide) k hk), ct_c (fun k hk => h.2.1 12 (by decide) (by decide) k hk), ct_c (fun k hk => h.2.1 13 (by decide) (by decide) k hk), ct_c (fun k hk => h.2.1 14 (by decide) (by decide) k hk), ct_c (fun k hk => h.2.2.2.2 k hk), h.2.2.1 15 (Or.inl rfl) (by decide), h.2.2.1 21 (Or.inr (Or.inr (by decide))) (by decide), h.2.2.1 23 (Or.inr (Or.inr (by decide))) (by decide), h.2.2.1 24 (Or.inr (Or.inr (by decide))) (by decide), h.2.2.1 19 (Or.inr (Or.inl rfl)) (by decide)]
  exact ⟨rfl, rfl, rfl, rfl, rfl, rfl, rfl, rfl⟩
theorem runOK_mv {u u' : rg_U} {r q : Nat} (h : mvR u u' r q) (hr : runOK u r) : runOK u' q := by
  obtain ⟨e1, e2, e3, e4, e5, e6, e7, e8⟩ := mv_e h
  obtain ⟨a1, a2, a3, a4, a5, a6, a7, a8, a9⟩ := hr
  unfold runOK
  rw [e1, e2, e3, e4, e5, e6, e7, e8, h.2.2.1 15 (Or.inl rfl) (by decide), h.2.2.1 21 (Or.inr (Or.inr (by decide))) (by decide), h.2.2.1 23 (Or.inr (Or.inr (by decide))) (by decide), h.2.2.1 24 (Or.inr (Or.inr (by decide))) (by decide), h.2.2.1 19 (Or.inr (Or.inl rfl)) (by decide)]
  refine ⟨a1, a2, a3, a4, a5, a6, a7, a8, a9.1, ?_⟩
  obtain ⟨ct, c1, c2⟩ := a9.2
  refine ⟨ct, fun i hi => ?_, c2⟩
  have hi100 := a9.1
  dsimp only
  rw [h.2.2.2.1 16 (by decide) (by decide) i (by omega)]
  exact c1 i hi
end W_22
section W_23
-- 97i.keep
theorem kE64 {j : Nat} (a : 6 ≤ j) (b : j ≤ 9) : kE j = 64 := by rw [kE_v, if_pos ⟨a, b⟩]
theorem kE800 {j : Nat} (a : 10 ≤ j) (b : j ≤ 14) : kE j = 800 := by rw [kE_v, if_neg (show ¬ (6 ≤ j ∧ j ≤ 9) by omega), if_pos ⟨a, b⟩]
theorem kE100 {j : Nat} (a : 16 ≤ j) (b : j ≤ 18) : kE j = 100 := by rw [kE_v, if_neg (show ¬ (6 ≤ j ∧ j ≤ 9) by omega), if_neg (show ¬ (10 ≤ j ∧ j ≤ 14) by omega), if_pos ⟨a, b⟩]
theorem kE20 : kE 20 = 3001 := rfl
theorem kE1 {j : Nat} (h : j = 15 ∨ j = 19 ∨ j = 21 ∨ (23 ≤ j ∧ j ≤ 27)) : kE j = 1 := by rw [kE_v, if_neg (show ¬ (6 ≤ j ∧ j ≤ 9) by omega), if_neg (show ¬ (10 ≤ j ∧ j ≤ 14) by omega), if_neg (show ¬ (16 ≤ j ∧ j ≤ 18) by omega), if_neg (show ¬ j = 20 by omega), if_pos h]
theorem kE0 {j : Nat} (h : j < 6 ∨ 28 ≤ j ∨ j = 22) : kE j = 0 := by rw [kE_v, if_neg (show ¬ (6 ≤ j ∧ j ≤ 9) by omega), if_neg (show ¬ (10 ≤ j ∧ j ≤ 14) by omega), if_neg (show ¬ (16 ≤ j ∧ j ≤ 18) by omega), if_neg (show ¬ j = 20 by omega), if_neg (show ¬ (j = 15 ∨ j = 19 ∨ j = 21 ∨ (23 ≤ j ∧ j ≤ 27)) by omega)]
theorem hm01 {u : rg_U} {r i : Nat} (h : runOK u r) (h1 : 3001 * r ≤ i) (h2 : i < 3001 * r + 3001) : u.2.1 20 i = 0 ∨ u.2.1 20 i = 1 := by
  have := h.2.2.2.2.2.2.2.1.2 (i - 3001 * r) (by omega)
  rw [Hm_k (by omega), show 3001 * r + (i - 3001 * r) = i by omega] at this
  exact this.imp id (fun z => z.1)
/-- keep: refused, or run K is as the one that is now, with its status -/
theorem m_keep {F K W : Nat} {u : rg_U} (h : okM u K W) (hF : 10000 < F) : (¬ (u.2.1 5 4 = 1 ∧ K < 4) ∧ g_X10_keep F u = some (-1, u)) ∨ (u.2.1 5 4 = 1 ∧ K < 4 ∧ ∃ u', g_X10_keep F u = some (nI K, u') ∧ okM u' (K + 1) W ∧ (∀ r, r < 5 → r ≠ K → agR u u' r) ∧ mvR u u' 4 K ∧ u'.2.1 22 K = stM u W ∧ (∀ k, k ≠ 29 → u'.1 k = u.1 k) ∧ ∀ j, (j < 5 ∨ 28 ≤ j) → u'.2.1 j = u.2.1 j) := by
  unfold g_X10_keep
  have e5 : rA u 5 4 = u.2.1 5 4 := rfl
  have hK4 := h.1.1.2.1
  have e29 : rF u 0 29 = nI K := h.1.1.1
  rw [ck_t (by decide), e5, e29]
  by_cases q : u.2.1 5 4 = 0
  · refine Or.inl ⟨fun z => ?_, by rw [if_pos q]⟩
    rw [q] at z
    exact absurd z.1 (by decide)
  have q1 : u.2.1 5 4 = 1 := h.1.2.1.1.resolve_left q
  rw [if_neg q]
  by_cases qK : K = 4
  · exact Or.inl ⟨fun z => by omega, by rw [qK, if_pos (by decide)]⟩
  have hK : K < 4 := by omega
  rw [if_neg (show ¬ nI K = (4 : Int32) from fun z => qK (nI_inj (b := 4) (by omega) (by decide) z))]
  refine Or.inr ⟨q1, hK, ?_⟩
  have hro := h.1.2.2.2.2.1 4 (Or.inr ⟨rfl, q1⟩)
  obtain ⟨s1, e1, c1⟩ := cp_step (F := F) (o := 6) (N := 320) (e := 64) (CP_0 (u := u) (K := K)) rfl (by decide) (by decide) (by decide) hK hF (by decide)
  obtain ⟨s2, e2, c2⟩ := cp_step (F := F) (o := 7) (N := 320) (e := 64) c1 rfl (by decide) (by decide) (by decide) hK hF (by decide)
  obtain ⟨s3, e3, c3⟩ := cp_step (F := F) (o := 8) (N := 320) (e := 64) c2 rfl (by decide) (by decide) (by decide) hK hF (by decide)
  obtain ⟨s4, e4, c4⟩ := cp_step (F := F) (o := 9) (N := 320) (e := 64) c3 rfl (by decide) (by decide) (by decide) hK hF (by decide)
  obtain ⟨s5, e5', c5⟩ := cp_step (F := F) (o := 10) (N := 4000) (e := 800) c4 rfl (by decide) (by decide) (by decide) hK hF (by decide)
  obtain ⟨s6, e6, c6⟩ := cp_step (F := F) (o := 11) (N := 4000) (e := 800) c5 rfl (by decide) (by decide) (by decide) hK hF (by decide)
  obtain ⟨s7, e7, c7⟩ := cp_step (F := F) (o := 12) (N := 4000) (e := 800) c6 rfl (by decide) (by decide) (by decide) hK hF (by decide)
  obtain ⟨s8, e8, c8⟩ := cp_step (F := F) (o := 13) (N := 4000) (e := 800) c7 rfl (by decide) (by decide) (by decide) hK hF (by decide)
  obtain ⟨s9, e9, c9⟩ := cp_step (F := F) (o := 14) (N := 4000) (e := 800) c8 rfl (by decide) (by decide) (by decide) hK hF (by decide)
  obtain ⟨s10, e10, c10⟩ := cp_step (F := F) (o := 15) (N := 5) (e := 1) c9 rfl (by decide) (by decide) (by decide) hK hF (by decide)
  obtain ⟨s11, e11, c11⟩ := cp_step (F := F) (o := 16) (N := 500) (e := 100) c10 rfl (by decide) (by decide) (by decide) hK hF (by decide)
  obtain ⟨s12, e12, c12⟩ := cp_step (F := F) (o := 17) (N := 500) (e := 100) c11 rfl (by decide) (by decide) (by decide) hK hF (by decide)
  obtain ⟨s13, e13, c13⟩ := cp_step (F := F) (o := 18) (N := 500) (e := 100) c12 rfl (by decide) (by decide) (by decide) hK hF (by decide)
  obtain ⟨s14, e14, c14⟩ := cp_step (F := F) (o := 19) (N := 5) (e := 1) c13 rfl (by decide) (by decide) (by decide) hK hF (by decide)
  obtain ⟨s15, e15, c15⟩ := cp_held (F := F) c14 rfl (fun i a b => hm01 hro (by omega) (by omega)) hK hF
  obtain ⟨s16, e16, c16⟩ := cp_step (F := F) (o := 21) (N := 5) (e := 1) c15 rfl (by decide) (by decide) (by decide) hK hF (by decide)
  obtain ⟨s17, e17, c17⟩ := cp_step (F := F) (o := 23) (N := 5) (e := 1) c16 rfl (by decide) (by decide) (by decide) hK hF (by decide)
  obtain ⟨s18, e18, c18⟩ := cp_step (F := F) (o := 24) (N := 5) (e := 1) c17 rfl (by decide) (by decide) (by decide) hK hF (by decide)
  obtain ⟨s19, e19, c19⟩ := cp_step (F := F) (o := 25) (N := 5) (e := 1) c18 rfl (by decide) (by decide) (by decide) hK hF (by decide)
  obtain ⟨s20, e20, c20⟩ := cp_step (F := F) (o := 26) (N := 5) (e := 1) c19 rfl (by decide) (by decide) (by decide) hK hF (by decide)
  obtain ⟨s21, e21, c21⟩ := cp_step (F := F) (o := 27) (N := 5) (e := 1) c20 rfl (by decide) (by decide) (by decide) hK hF (by decide)
  have c : CP u s21 K kE := c21
  rw [show g_X10_copies F 6 320 64 4 (nI K) u = some s1 from e1, ob_i, show g_X10_copies F 7 320 64 4 (nI K) s1 = some s2 from e2, ob_i, show g_X10_copies F 8 320 64 4 (nI K) s2 = some s3 from e3, ob_i, show g_X10_copies F 9 320 64 4 (nI K) s3 = some s4 from e4, ob_i, show g_X10_copies F 10 4000 800 4 (nI K) s4 = some s5 from e5', ob_i, show g_X10_copies F 11 4000 800 4 (nI K) s5 = some s6 from e6, ob_i, show g_X10_copies F 12 4000 800 4 (nI K) s6 = some s7 from e7, ob_i, show g_X10_copies F 13 4000 800 4 (nI K) s7 = some s8 from e8, ob_i, show g_X10_copies F 14 4000 800 4 (nI K) s8 = some s9 from e9, ob_i, show g_X10_copies F 15 5 1 4 (nI K) s9 = some s10 from e10, ob_i, show g_X10_copies F 16 500 100 4 (nI K) s10 = some s11 from e11, ob_i, show g_X10_copies F 17 500 100 4 (nI K) s11 = some s12 from e12, ob_i, show g_X10_copies F 18 500 100 4 (nI K) s12 = some s13 from e13, ob_i, show g_X10_copies F 19 5 1 4 (nI K) s13 = some s14 from e14, ob_i, e15, ob_i, show g_X10_copies F 21 5 1 4 (nI K) s15 = some s16 from e16, ob_i, show g_X10_copies F 23 5 1 4 (nI K) s16 = some s17 from e17, ob_i, show g_X10_copies F 24 5 1 4 (nI K) s17 = some s18 from e18, ob_i, show g_X10_copies F 25 5 1 4 (nI K) s18 = some s19 from e19, ob_i, show g_X10_copies F 26 5 1 4 (nI K) s19 = some s20 from e20, ob_i, show g_X10_copies F 27 5 1 4 (nI K) s20 = some s21 from e21, ob_i]
  clear e1 e2 e3 e4 e5' e6 e7 e8 e9 e10 e11 e12 e13 e14 e15 e16 e17 e18 e19 e20 e21 c1 c2 c3 c4 c5 c6 c7 c8 c9 c10 c11 c12 c13 c14 c15 c16 c17 c18 c19 c20 c21
  have hv := c.2
  -- the state that is now is untouched, so its status is
  have fr : ∀ r, r < 5 → r ≠ K → agR u s21 r := fun r hr hrK => by
    refine ⟨fun j a b k e => ?_, fun j a b k e => ?_, fun j a => ?_, fun j a b k e => ?_, fun k e => ?_⟩
    · rw [hv, kE64 a b, if_neg (by omega)]
    · rw [hv, kE800 a b, if_neg (by omega)]
    · unfold scal at a
      by_cases z : j = 22
      · rw [hv, kE0 (by omega), if_neg (by omega)]
      · rw [hv, kE1 (by omega), if_neg (by omega)]
    · rw [hv, kE100 a b, if_neg (by omega)]
    · rw [hv, kE20, if_neg (by omega)]
  have un : ∀ j, (j < 6 ∨ 28 ≤ j ∨ j = 22) → s21.2.1 j = u.2.1 j := fun j hj => by
    funext i
    rw [hv, kE0 hj, if_neg (by omega)]
  have mv : mvR u s21 4 K := by
    refine ⟨fun j a b k e => ?_, fun j a b k e => ?_, fun j a a2 => ?_, fun j a b k e => ?_, fun k e => ?_⟩
    · rw [hv, kE64 a b, if_pos (by omega), show 64 * K + k - 64 * K + 64 * 4 = 64 * 4 + k by omega]
    · rw [hv, kE800 a b, if_pos (by omega), show 800 * K + k - 800 * K + 800 * 4 = 800 * 4 + k by omega]
    · unfold scal at a
      rw [hv, kE1 (by omega), if_pos (by omega), show K - 1 * K + 1 * 4 = 4 by omega]
    · rw [hv, kE100 a b, if_pos (by omega), show 100 * K + k - 100 * K + 100 * 4 = 100 * 4 + k by omega]
    · rw [hv, kE20, if_pos (by omega), show 3001 * K + k - 3001 * K + 3001 * 4 = 3001 * 4 + k by omega]
  have g4 := fr 4 (by decide) (by omega)
  have hst : g_X10_status F s21 = some (stM u W) := by
    have hcore : coreM s21 K W := by
      obtain ⟨d1, d2, d3, d4, d5, d6, d7, d8⟩ := h.1
      refine ⟨by rw [c.1]; exact d1, by rw [un 5 (by omega)]; exact d2, by rw [un 1 (by omega), un 2 (by omega), un 3 (by omega), un 4 (by omega)]; exact d3, by rw [c.1]; exact d4, fun r hr => ?_, by rw [un 5 (by omega), un 28 (by omega), rpm_g g4, (sc_g g4).2.1]; exact d6, by rw [c.1, un 5 (by omega), Lm_g g4, (sc_g g4).1]; exact d7, by rw [un 30 (by omega)]; exact d8⟩
      have hr' : act u K r := by unfold act at hr ⊢; rw [← un 5 (by omega)]; exact hr
      exact runOK_g (fr r (act5 hK4 hr') (by rcases hr' with z | ⟨z, -⟩ <;> omega)) (d5 r hr')
    rw [m_status hcore (by rw [un 5 (by omega)]; exact q1)]
    unfold stM
    rw [Pm_g g4, (sc_g g4).1, un 28 (by omega)]
  rw [hst, ob_i, ck_t (inb_nI (by omega) (by decide)), lt1_i, sA_nI (by omega), ck_t (inb_nI (by omega) (by decide)), lt1_i, sZ_nI (by omega), nar1, lt1_i, show rF (rg_R (rg_R s21 22 K (stM u W)) 5 K 1) 0 29 = nI K by show s21.1 29 = _; rw [c.1]; exact h.1.1.1, nI_1]
  have eA : ∀ j, j ≠ 5 → j ≠ 22 → (sF (rg_R (rg_R s21 22 K (stM u W)) 5 K 1) 0 29 (nI (K + 1))).2.1 j = s21.2.1 j := fun j h2 h3 => by
    funext i
    show (rg_R (rg_R s21 22 K (stM u W)) 5 K 1).2.1 j i = _
    rw [R_at, if_neg (fun z => h2 z.1), R_at, if_neg (fun z => h3 z.1)]
  have e5r : ∀ i, (sF (rg_R (rg_R s21 22 K (stM u W)) 5 K 1) 0 29 (nI (K + 1))).2.1 5 i = if i = K then 1 else u.2.1 5 i := fun i => by
    show (rg_R (rg_R s21 22 K (stM u W)) 5 K 1).2.1 5 i = _
    rw [R_at, R_at, if_neg (show ¬ (5 = 22 ∧ i = K) by omega), un 5 (by omega)]
    by_cases z : i = K
    · rw [if_pos ⟨rfl, z⟩, if_pos z]
    · rw [if_neg (fun w => z w.2), if_neg z]
  have e22 : ∀ i, (sF (rg_R (rg_R s21 22 K (stM u W)) 5 K 1) 0 29 (nI (K + 1))).2.1 22 i = if i = K then stM u W else u.2.1 22 i := fun i => by
    show (rg_R (rg_R s21 22 K (stM u W)) 5 K 1).2.1 22 i = _
    rw [R_at, if_neg (show ¬ (22 = 5 ∧ i = K) by omega), R_at, un 22 (by omega)]
    by_cases z : i = K
    · rw [if_pos ⟨rfl, z⟩, if_pos z]
    · rw [if_neg (fun w => z w.2), if_neg z]
  have ef : ∀ k, k ≠ 29 → (sF (rg_R (rg_R s21 22 K (stM u W)) 5 K 1) 0 29 (nI (K + 1))).1 k = u.1 k := fun k hk => by
    show upd s21.1 (100 * 0 + 29) (nI (K + 1)) k = _
    rw [pk_un hk, c.1]
  have ef29 : (sF (rg_R (rg_R s21 22 K (stM u W)) 5 K 1) 0 29 (nI (K + 1))).1 29 = nI (K + 1) := by
    show upd s21.1 (100 * 0 + 29) (nI (K + 1)) 29 = _
    exact pk_us
  generalize sF (rg_R (rg_R s21 22 K (stM u W)) 5 K 1) 0 29 (nI (K + 1)) = u' at *
  have fr' : ∀ r, r < 5 → r ≠ K → agR u u' r := fun r hr hrK => by
    have f := fr r hr hrK
    refine ⟨fun j a b k e => by rw [eA j (by omega) (by omega)]; exact f.1 j a b k e, fun j a b k e => by rw [eA j (by omega) (by omega)]; exact f.2.1 j a b k e, fun j a => ?_, fun j a b k e => by rw [eA j (by omega) (by omega)]; exact f.2.2.2.1 j a b k e, fun k e => by rw [eA 20 (by omega) (by omega)]; exact f.2.2.2.2 k e⟩
    by_cases z : j = 22
    · subst z; rw [e22, if_neg hrK]
    · rw [eA j (by unfold scal at a; omega) z]; exact f.2.2.1 j a
  have mv' : mvR u u' 4 K := ⟨fun j a b k e => by rw [eA j (by omega) (by omega)]; exact mv.1 j a b k e, fun j a b k e => by rw [eA j (by omega) (by omega)]; exact mv.2.1 j a b k e, fun j a a2 => by rw [eA j (by unfold scal at a; omega) a2]; exact mv.2.2.1 j a a2, fun j a b k e => by rw [eA j (by omega) (by omega)]; exact mv.2.2.2.1 j a b k e, fun k e => by rw [eA 20 (by omega) (by omega)]; exact mv.2.2.2.2 k e⟩
  have g4' := fr' 4 (by decide) (by omega)
  have un' : ∀ j, (j < 5 ∨ 28 ≤ j) → u'.2.1 j = u.2.1 j := fun j hj => by rw [eA j (by omega) (by omega), un j (by omega)]
  have e54 : u'.2.1 5 4 = 1 := by rw [e5r, if_neg (by omega)]; exact q1
  refine ⟨u', rfl, ⟨?_, ?_⟩, fr', mv', by rw [e22, if_pos rfl], ef, un'⟩
  · obtain ⟨⟨d1, d1b, d1c⟩, ⟨d2, d2b, d2c⟩, d3, d4, d5, d6, ⟨d7, d7b, d7c⟩, d8⟩ := h.1
    refine ⟨⟨ef29, by omega, ?_⟩, ⟨Or.inr e54, fun _ => e54, fun r hr => ?_⟩, by rw [un' 1 (by omega), un' 2 (by omega), un' 3 (by omega), un' 4 (by omega)]; exact d3, by rw [ef 4 (by decide), ef 5 (by decide)]; exact d4, fun r hr => ?_, fun _ => by rw [un' 28 (by omega), rpm_g g4', (sc_g g4').2.1]; exact d6 q1, ⟨by rw [ef 33 (by decide)]; exact d7, d7b, fun _ => by rw [Lm_g g4', (sc_g g4').1]; exact d7c q1⟩, by rw [un' 30 (by omega)]; exact d8⟩
    · rw [ef 30 (by decide)]
      rcases d1c with z | ⟨r, z1, z2⟩
      · exact Or.inl z
      · exact Or.inr ⟨r, by omega, z2⟩
    · rw [e5r]
      by_cases z : r = K
      · rw [if_pos z]
      · rw [if_neg z]; exact d2c r (by omega)
    · rcases hr with hr | ⟨rfl, -⟩
      · by_cases z : r = K
        · subst z; exact runOK_mv mv' hro
        · exact runOK_g (fr' r (by omega) z) (d5 r (Or.inl (by omega)))
      · exact runOK_g g4' hro
  · obtain ⟨t1, t2, t3, t4, t5⟩ := h.2
    have hact : ∀ r, act u K r → act u' (K + 1) r ∧ r < 5 ∧ r ≠ K := fun r hr => by
      rcases hr with z | ⟨z, -⟩
      · exact ⟨Or.inl (by omega), by omega, by omega⟩
      · exact ⟨Or.inr ⟨z, e54⟩, by omega, by omega⟩
    refine ⟨?_, fun r hr => ?_, by rw [un' 28 (by omega)]; exact t3, by rw [un' 31 (by omega)]; exact t4, by rw [un' 37 (by omega)]; exact t5⟩
    · rw [ef 41 (by decide)]
      rcases t1 with z | ⟨r, z1, z2⟩
      · exact Or.inl z
      · exact Or.inr ⟨r, (hact r z1).1, z2⟩
    · intro z
      rw [ef 41 (by decide)] at z
      rcases t1 with y | ⟨r', y1, y2⟩
      · exact absurd (z.symm.trans y) (nI_m1 (by have : r < 5 := act5 (K := K + 1) (by omega) hr; omega))
      · have hr5 : r < 5 := act5 (K := K + 1) (by omega) hr
        obtain ⟨-, x2, x3⟩ := hact r' y1
        have e : r = r' := nI_inj (by omega) (by omega) (z.symm.trans y2)
        subst e
        have g := fr' r x2 x3
        obtain ⟨s, b1, b2, b3⟩ := t2 r y1 y2
        exact ⟨s, by rw [(sc_g g).2.1]; exact b1, by rw [un' 31 (by omega), Pm_g g, Lm_g g, (sc_g g).1]; exact b2, by rw [ef 42 (by decide), Pm_g g, Lm_g g, (sc_g g).1]; exact b3⟩
end W_23
section W_24
-- 97j.back
/-! back -/
theorem isLt {x : Int32} {K : Nat} (hK : K < 2 ^ 31) : (g_X10_isIn x 0 (nI K - 1) = 0 ∧ ¬ ∃ r, r < K ∧ x = nI r) ∨ (¬ g_X10_isIn x 0 (nI K - 1) = 0 ∧ ∃ r, r < K ∧ x = nI r) := by
  have h : ∀ r, r < K → ¬ g_X10_isIn (nI r) 0 (nI K - 1) = 0 := fun r hr => by
    rw [show nI K - 1 = nI (K - 1) from nI_sub (a := K) (b := 1) (by omega)]
    exact in_nI (a := 0) (by omega) (by omega) (by omega)
  by_cases q : g_X10_isIn x 0 (nI K - 1) = 0
  · refine Or.inl ⟨q, ?_⟩
    rintro ⟨r, hr, rfl⟩
    exact h r hr q
  · refine Or.inr ⟨q, ?_⟩
    obtain ⟨r, e, h1, h2⟩ := in_nat q (by decide)
    refine ⟨r, ?_, e⟩
    rcases Nat.eq_zero_or_pos K with z | z
    · subst z
      have e2 : (nI 0 - 1).toInt = -1 := by decide
      omega
    · rw [show nI K - 1 = nI (K - 1) from nI_sub (a := K) (b := 1) z, nI_toInt (by omega)] at h2
      omega
theorem bk_live {F : Nat} {a b : Int32} {u : rg_U} (hF : 10000 < F) : ∃ v, lp (fun (s : Int32 × rg_U) => g_X10_back_l45 F a b s.1 s.2) F ((0 : Int32), u) = some v ∧ v.1 = u.1 ∧ ∀ j i, v.2.1 j i = if j = 28 ∧ i < 134 then u.2.1 31 i else u.2.1 j i := by
  refine lp_ex (body := fun (s : Int32 × rg_U) => g_X10_back_l45 F a b s.1 s.2) (P := fun k s => ∃ m, k + m = 134 ∧ s.1 = nI m ∧ s.2.1 = u.1 ∧ ∀ j i, s.2.2.1 j i = if j = 28 ∧ i < m then u.2.1 31 i else u.2.1 j i) (R := fun v => v.1 = u.1 ∧ ∀ j i, v.2.1 j i = if j = 28 ∧ i < 134 then u.2.1 31 i else u.2.1 j i) ?_ F 134 ((0 : Int32), u) (by omega) ⟨0, rfl, rfl, rfl, fun j i => by rw [if_neg (by omega)]⟩
  rintro k ⟨s1, s2⟩ ⟨m, hm, e1, e2, hv⟩
  dsimp only at e1 e2 hv
  subst e1
  unfold g_X10_back_l45
  dsimp only
  by_cases q : m = 134
  · right
    subst q
    exact ⟨s2, if_pos (by decide), e2, hv⟩
  · left
    rw [if_neg (show ¬ (134 : Int32) ≤ nI m from nI_ge (a := m) (b := 134) (by omega) (by decide)), ck_t (inb_nI (by omega) (by decide)), ck_t (inb_nI (by omega) (by decide)), lt1_i, sA_nI (by omega), rA_nI (by omega), nI_1]
    refine ⟨_, k - 1, rfl, by omega, m + 1, by omega, rfl, e2, fun j i => ?_⟩
    rw [R_at, hv j i, hv 31 m, if_neg (show ¬ (31 = 28 ∧ m < m) by omega)]
    by_cases z : j = 28 ∧ i = m
    · rw [if_pos z, if_pos (show j = 28 ∧ i < m + 1 by omega), z.2]
    · rw [if_neg z]
      by_cases y : j = 28 ∧ i < m
      · rw [if_pos y, if_pos (show j = 28 ∧ i < m + 1 by omega)]
      · rw [if_neg y, if_neg (show ¬ (j = 28 ∧ i < m + 1) by omega)]
theorem bk_stay {F n t l : Nat} {b : Int32} {u : rg_U} (h15 : u.2.1 15 4 = nI n) (hn : n ≤ 800) (hl : l ≤ n) (ht : t ≤ 3000) (ho : ∀ k, k < n → ∃ q, q ≤ 3000 ∧ (Lm u 4).1 k = nI q ∧ (k < l ↔ q < t + (if (Lm u 4).2.1 k = 2 then 1 else 0))) (hF : 10000 < F) : lp (fun (s : Int32) => g_X10_back_l79 F (nI t) b u s) F (0 : Int32) = some (nI l) := by
  have e15 : rA u 15 4 = nI n := h15
  have hbody : ∀ k, k < n → g_X10_back_l79 F (nI t) b u (nI k) = if k < l then some (.inl (nI (k + 1))) else some (.inr (nI k)) := fun k hk => by
    obtain ⟨q, hq1, hq2, hq3⟩ := ho k hk
    unfold g_X10_back_l79 g_X10_back_j119
    rw [ck_t (by decide), e15, if_neg (nI_ge hk (by omega)), show (3200 : Int32) + nI k = nI (3200 + k) from nI_add 3200 k, ck_t (inb_nI (by omega) (by decide)), ck_t (inb_nI (by omega) (by decide)), rA_nI (by omega), rA_nI (by omega), show u.2.1 10 (3200 + k) = nI q by rw [← hq2, Lm_0 (by omega)], show u.2.1 11 (3200 + k) = (Lm u 4).2.1 k by rw [Lm_1 (by omega)], nI_1]
    by_cases z : (Lm u 4).2.1 k = 2
    · rw [if_pos z] at hq3 ⊢
      rw [show nI t + g_X10_one 1 = nI (t + 1) from nI_1 t]
      by_cases y : k < l
      · rw [if_pos y, if_neg (nI_ge (hq3.mp y) (by omega))]
      · rw [if_neg y, if_pos (nI_le (Nat.not_lt.mp (mt hq3.mpr y)) (by omega))]
    · rw [if_neg z] at hq3 ⊢
      rw [show nI t + g_X10_one 0 = nI (t + 0) from nI_add t 0]
      by_cases y : k < l
      · rw [if_pos y, if_neg (nI_ge (hq3.mp y) (by omega))]
      · rw [if_neg y, if_pos (nI_le (Nat.not_lt.mp (mt hq3.mpr y)) (by omega))]
  have h := lp_up (body := fun (s : Int32) => g_X10_back_l79 F (nI t) b u s) (fun k => nI k) l (nI l) (fun k hk => by
    show g_X10_back_l79 F (nI t) b u (nI k) = _
    rw [hbody k (by omega), if_pos hk]) (by
    show g_X10_back_l79 F (nI t) b u (nI l) = _
    by_cases z : l < n
    · rw [hbody l z, if_neg (Nat.lt_irrefl l)]
    · unfold g_X10_back_l79
      rw [ck_t (by decide), e15, if_pos (nI_le (by omega) (by omega))]) F 0 (Nat.zero_le _) (by omega)
  exact h
theorem cI_mono {L : Lg} {a : Nat} : ∀ d, cI L a ≤ cI L (a + d)
  | 0 => Nat.le_refl _
  | d + 1 => Nat.le_trans (cI_mono d) (Nat.le_add_right _ _)
theorem cI_s {L : Lg} {k : Nat} : cI L (k + 1) = cI L k + (if L.2.1 k = 0 then 1 else 0) := rfl
theorem bk_again {F n l : Nat} {a b c : Int32} {u : rg_U} (h15 : u.2.1 15 4 = nI n) (hn : n ≤ 800) (hl : l ≤ n) (hF : 10000 < F) : lp (fun (s : Int32 × Int32) => g_X10_back_l138 F a b c u s.1 s.2) F ((0 : Int32), nI l) = some (nI (cI (Lm u 4) n - cI (Lm u 4) l)) := by
  have e15 : rA u 15 4 = nI n := h15
  have h := lp_up (body := fun (s : Int32 × Int32) => g_X10_back_l138 F a b c u s.1 s.2) (fun k => (nI (cI (Lm u 4) (l + k) - cI (Lm u 4) l), nI (l + k))) (n - l) (nI (cI (Lm u 4) n - cI (Lm u 4) l)) (fun k hk => by
    show g_X10_back_l138 F a b c u (nI (cI (Lm u 4) (l + k) - cI (Lm u 4) l)) (nI (l + k)) = _
    unfold g_X10_back_l138 g_X10_back_j170
    have hm := cI_mono (L := Lm u 4) (a := l) k
    rw [ck_t (by decide), e15, if_neg (nI_ge (by omega) (by omega)), show (3200 : Int32) + nI (l + k) = nI (3200 + (l + k)) from nI_add 3200 _, ck_t (inb_nI (by omega) (by decide)), rA_nI (by omega), show u.2.1 11 (3200 + (l + k)) = (Lm u 4).2.1 (l + k) by rw [Lm_1 (by omega)], nI_1, show l + (k + 1) = (l + k) + 1 by omega, cI_s]
    by_cases z : (Lm u 4).2.1 (l + k) = 0
    · rw [if_pos z, if_pos z, show g_X10_one 1 = 1 from rfl, nI_1, show cI (Lm u 4) (l + k) - cI (Lm u 4) l + 1 = cI (Lm u 4) (l + k) + 1 - cI (Lm u 4) l by omega]
    · rw [if_neg z, if_neg z, show g_X10_one 0 = nI 0 from rfl, nI_add]; rfl) (by
    show g_X10_back_l138 F a b c u _ (nI (l + (n - l))) = _
    unfold g_X10_back_l138
    rw [ck_t (by decide), e15, if_pos (nI_le (by omega) (by omega)), show l + (n - l) = n by omega]) F 0 (Nat.zero_le _) (by omega)
  rw [show (nI (cI (Lm u 4) (l + 0) - cI (Lm u 4) l), nI (l + 0)) = ((0 : Int32), nI l) by rw [Nat.add_zero, Nat.sub_self]; rfl] at h
  exact h
theorem bk_shift {F W g : Nat} {a b c : Int32} {u : rg_U} (hW : W + g ≤ 900) (hF : 10000 < F) : ∃ v, lp (fun (s : Int32 × rg_U) => g_X10_back_l190 F a b c (nI g) s.1 s.2) F (nI W - 1, u) = some v ∧ v.1 = u.1 ∧ ∀ j i, v.2.1 j i = if j = 29 ∧ g ≤ i ∧ i < W + g then u.2.1 29 (i - g) else u.2.1 j i := by
  refine lp_ex (body := fun (s : Int32 × rg_U) => g_X10_back_l190 F a b c (nI g) s.1 s.2) (P := fun k s => k ≤ W ∧ s.1 = nI k - 1 ∧ s.2.1 = u.1 ∧ ∀ j i, s.2.2.1 j i = if j = 29 ∧ k + g ≤ i ∧ i < W + g then u.2.1 29 (i - g) else u.2.1 j i) (R := fun v => v.1 = u.1 ∧ ∀ j i, v.2.1 j i = if j = 29 ∧ g ≤ i ∧ i < W + g then u.2.1 29 (i - g) else u.2.1 j i) ?_ F W (nI W - 1, u) (by omega) ⟨Nat.le_refl _, rfl, rfl, fun j i => by rw [if_neg (by omega)]⟩
  rintro k ⟨s1, s2⟩ ⟨hk, e1, e2, hv⟩
  dsimp only at e1 e2 hv
  subst e1
  unfold g_X10_back_l190
  dsimp only
  match k, hk, hv with
  | 0, hk, hv =>
    right
    refine ⟨s2, if_pos (by decide), e2, fun j i => ?_⟩
    rw [hv j i]
    by_cases z : j = 29 ∧ g ≤ i ∧ i < W + g
    · rw [if_pos z, if_pos (by omega)]
    · rw [if_neg z, if_neg (by omega)]
  | k + 1, hk, hv =>
    left
    rw [nI_pred, if_neg (nI_pos (by omega)), ck_t (inb_nI (by omega) (by decide)), nI_add, ck_t (inb_nI (by omega) (by decide)), lt1_i, sA_nI (by omega), rA_nI (by omega)]
    refine ⟨_, k, rfl, by omega, by omega, (Int32.sub_eq_add_neg _ _).symm, e2, fun j i => ?_⟩
    rw [R_at, hv j i, hv 29 k, if_neg (show ¬ (29 = 29 ∧ k + 1 + g ≤ k ∧ k < W + g) by omega)]
    by_cases z : j = 29 ∧ i = k + g
    · rw [if_pos z, if_pos (show j = 29 ∧ k + g ≤ i ∧ i < W + g by omega), show i - g = k by omega]
    · rw [if_neg z]
      by_cases y : j = 29 ∧ k + 1 + g ≤ i ∧ i < W + g
      · rw [if_pos y, if_pos (show j = 29 ∧ k + g ≤ i ∧ i < W + g by omega)]
      · rw [if_neg y, if_neg (show ¬ (j = 29 ∧ k + g ≤ i ∧ i < W + g) by omega)]
theorem bk_fill {F n l : Nat} {a b c : Int32} {u : rg_U} (h15 : u.2.1 15 4 = nI n) (hn : n ≤ 800) (hl : l ≤ n) (hF : 10000 < F) : ∃ v, lp (fun (s : Int32 × Int32 × rg_U) => g_X10_back_l235 F a b c s.1 s.2.1 s.2.2) F ((0 : Int32), nI l, u) = some v ∧ v.1 = u.1 ∧ (∀ j, j ≠ 29 → v.2.1 j = u.2.1 j) ∧ (∀ i, cI (Lm u 4) n - cI (Lm u 4) l ≤ i → v.2.1 29 i = u.2.1 29 i) ∧ ∀ k, l ≤ k → k < n → (Lm u 4).2.1 k = 0 → v.2.1 29 (cI (Lm u 4) k - cI (Lm u 4) l) = (Lm u 4).2.2.1 k := by
  refine lp_ex (body := fun (s : Int32 × Int32 × rg_U) => g_X10_back_l235 F a b c s.1 s.2.1 s.2.2) (P := fun k s => ∃ m, k + m = n ∧ l ≤ m ∧ s.1 = nI (cI (Lm u 4) m - cI (Lm u 4) l) ∧ s.2.1 = nI m ∧ s.2.2.1 = u.1 ∧ (∀ j, j ≠ 29 → s.2.2.2.1 j = u.2.1 j) ∧ (∀ i, cI (Lm u 4) m - cI (Lm u 4) l ≤ i → s.2.2.2.1 29 i = u.2.1 29 i) ∧ ∀ k, l ≤ k → k < m → (Lm u 4).2.1 k = 0 → s.2.2.2.1 29 (cI (Lm u 4) k - cI (Lm u 4) l) = (Lm u 4).2.2.1 k) (R := fun v => v.1 = u.1 ∧ (∀ j, j ≠ 29 → v.2.1 j = u.2.1 j) ∧ (∀ i, cI (Lm u 4) n - cI (Lm u 4) l ≤ i → v.2.1 29 i = u.2.1 29 i) ∧ ∀ k, l ≤ k → k < n → (Lm u 4).2.1 k = 0 → v.2.1 29 (cI (Lm u 4) k - cI (Lm u 4) l) = (Lm u 4).2.2.1 k) ?_ F (n - l) ((0 : Int32), nI l, u) (by omega) ⟨l, by omega, Nat.le_refl _, by rw [Nat.sub_self]; rfl, rfl, rfl, fun _ _ => rfl, fun _ _ => rfl, fun k a b => by omega⟩
  rintro k ⟨s1, s2, s3⟩ ⟨m, hm, hlm, e1, e2, e3, ha, hb, hc⟩
  dsimp only at e1 e2 e3 ha hb hc
  subst e1
  subst e2
  have e15 : rA s3 15 4 = nI n := by
    show s3.2.1 15 4 = _
    rw [ha 15 (by decide)]
    exact h15
  unfold g_X10_back_l235 g_X10_back_j284
  dsimp only
  by_cases q : m = n
  · right
    subst q
    exact ⟨s3, by rw [ck_t (by decide), e15, if_pos (nI_le (Nat.le_refl _) (by omega))], e3, ha, hb, hc⟩
  · left
    have hmono := cI_mono (L := Lm u 4) (a := l) (m - l)
    rw [show l + (m - l) = m by omega] at hmono
    have hle := cI_le (L := Lm u 4) m
    rw [ck_t (by decide), e15, if_neg (nI_ge (by omega) (by omega)), show (3200 : Int32) + nI m = nI (3200 + m) from nI_add 3200 m, ck_t (inb_nI (by omega) (by decide)), ck_t (inb_nI (by omega) (by decide)), ck_t (inb_nI (by omega) (by decide)), rA_nI (by omega), rA_nI (by omega), ha 11 (by decide), ha 12 (by decide), show u.2.1 11 (3200 + m) = (Lm u 4).2.1 m by rw [Lm_1 (by omega)], show u.2.1 12 (3200 + m) = (Lm u 4).2.2.1 m by rw [Lm_2 (by omega)], lt1_i, sA_nI (by omega), nI_1, nI_1]
    by_cases z : (Lm u 4).2.1 m = 0
    · rw [if_pos z]
      have hcs : cI (Lm u 4) (m + 1) = cI (Lm u 4) m + 1 := by rw [cI_s, if_pos z]
      refine ⟨_, k - 1, rfl, by omega, m + 1, by omega, by omega, ?_, rfl, e3, fun j hj => ?_, fun i hi => ?_, fun i h1 h2 h3 => ?_⟩
      · dsimp only
        rw [hcs, show cI (Lm u 4) m - cI (Lm u 4) l + 1 = cI (Lm u 4) m + 1 - cI (Lm u 4) l by omega]
      · exact (pm_up_n hj).trans (ha j hj)
      · rw [R_at, if_neg (by omega)]
        exact hb i (by omega)
      · rw [R_at]
        by_cases y : i = m
        · subst y; rw [if_pos ⟨rfl, rfl⟩]
        · have hi : cI (Lm u 4) (i + 1) ≤ cI (Lm u 4) m := by
            have := cI_mono (L := Lm u 4) (a := i + 1) (m - (i + 1))
            rw [show i + 1 + (m - (i + 1)) = m by omega] at this
            exact this
          rw [cI_s, if_pos h3] at hi
          have hil := cI_mono (L := Lm u 4) (a := l) (i - l)
          rw [show l + (i - l) = i by omega] at hil
          rw [if_neg (by omega)]
          exact hc i h1 (by omega) h3
    · rw [if_neg z]
      have hcs : cI (Lm u 4) (m + 1) = cI (Lm u 4) m := by rw [cI_s, if_neg z]; rfl
      refine ⟨_, k - 1, rfl, by omega, m + 1, by omega, by omega, by rw [hcs], rfl, e3, ha, fun i hi => hb i (by omega), fun i h1 h2 h3 => ?_⟩
      by_cases y : i = m
      · subst y; exact absurd h3 z
      · exact hc i h1 (by omega) h3
end W_24
section W_25
-- 97k.back
theorem bk_calls {F t C : Nat} {b : Int32} {ct : Nat → Nat} {u : rg_U} (h19 : u.2.1 19 4 = nI C) (hC : C ≤ 100) (hct : ∀ i, i < C → u.2.1 16 (400 + i) = nI (ct i) ∧ ct i < 3000) (ht : t ≤ 3000) (hF : 10000 < F) : ∃ v C', lp (fun (s : rg_U) => g_X10_back_l297 F (nI t) b s) F u = some v ∧ C' ≤ C ∧ v.1 = u.1 ∧ (∀ j i, v.2.1 j i = if j = 19 ∧ i = 4 then nI C' else u.2.1 j i) ∧ (C' = 0 ∨ ct (C' - 1) < t) ∧ ∀ i, C' ≤ i → i < C → t ≤ ct i := by
  have key : ∀ (k : Nat), k ≤ C → ∀ s : rg_U, s.1 = u.1 → (∀ j i, s.2.1 j i = if j = 19 ∧ i = 4 then nI k else u.2.1 j i) → (∀ i, k ≤ i → i < C → t ≤ ct i) → ∀ G, k < G → ∃ v C', lp (fun (s : rg_U) => g_X10_back_l297 F (nI t) b s) G s = some v ∧ C' ≤ C ∧ v.1 = u.1 ∧ (∀ j i, v.2.1 j i = if j = 19 ∧ i = 4 then nI C' else u.2.1 j i) ∧ (C' = 0 ∨ ct (C' - 1) < t) ∧ ∀ i, C' ≤ i → i < C → t ≤ ct i := by
    intro k
    induction k with
    | zero =>
      intro hk s e1 hv hr G hG
      match G, hG with
      | 0, hG => omega
      | G + 1, hG =>
        unfold lp g_X10_back_l297
        have e19 : rA s 19 4 = nI 0 := by
          show s.2.1 19 4 = _
          rw [hv, if_pos ⟨rfl, rfl⟩]
        rw [ck_t (by decide), e19, if_pos (by decide)]
        exact ⟨s, 0, rfl, by omega, e1, hv, Or.inl rfl, hr⟩
    | succ k ih =>
      intro hk s e1 hv hr G hG
      match G, hG with
      | 0, hG => omega
      | G + 1, hG =>
        unfold lp g_X10_back_l297
        have e19 : rA s 19 4 = nI (k + 1) := by
          show s.2.1 19 4 = _
          rw [hv, if_pos ⟨rfl, rfl⟩]
        obtain ⟨c1, c2⟩ := hct k (by omega)
        have e16 : s.2.1 16 (400 + k) = nI (ct k) := by rw [hv, if_neg (by omega)]; exact c1
        rw [ck_t (by decide), e19, if_neg (show ¬ nI (k + 1) ≤ 0 from nI_nle (by omega) (by omega)), ck_t (by decide), show (400 : Int32) + nI (k + 1) - 1 = nI (400 + k) by rw [show (400 : Int32) + nI (k + 1) = nI (400 + k + 1) from nI_add 400 (k + 1), nI_pred], ck_t (inb_nI (by omega) (by decide)), rA_nI (by omega), e16]
        by_cases q : ct k < t
        · rw [if_pos (nI_lt q (by omega))]
          exact ⟨s, k + 1, rfl, hk, e1, hv, Or.inr q, hr⟩
        · rw [if_neg (nI_nlt (by omega) (by omega)), ck_t (by decide), ck_t (by decide), nI_pred, lt1_i]
          have ew : sA s 19 4 (nI k) = rg_R s 19 4 (nI k) := rfl
          rw [ew]
          refine ih (by omega) (rg_R s 19 4 (nI k)) e1 (fun j i => ?_) (fun i h1 h2 => ?_) G (by omega)
          · rw [R_at, hv j i]
            by_cases z : j = 19 ∧ i = 4
            · rw [if_pos z, if_pos z]
            · rw [if_neg z, if_neg z, if_neg z]
          · by_cases z : i = k
            · subst z; omega
            · exact hr i (by omega) h2
  refine key C (Nat.le_refl _) u rfl (fun j i => ?_) (fun i h1 h2 => by omega) F (by omega)
  by_cases z : j = 19 ∧ i = 4
  · rw [if_pos z, z.1, z.2]; exact h19
  · rw [if_neg z]
theorem bk_held {F t U : Nat} {b : Int32} {u : rg_U} (h23 : u.2.1 23 4 = nI U) (hU : U ≤ 64) (ht : t ≤ 3000) (hF : 10000 < F) : ∃ v, lp (fun (s : Int32 × rg_U) => g_X10_back_l343 F (nI t) b s.1 s.2) F ((1 : Int32), u) = some v ∧ v.1 = u.1 ∧ ∀ j i, v.2.1 j i = if j = 20 ∧ (12004 < i ∧ i < 15005) ∧ t < (i - 12004) * U then 0 else u.2.1 j i := by
  refine lp_ex (body := fun (s : Int32 × rg_U) => g_X10_back_l343 F (nI t) b s.1 s.2) (P := fun k s => ∃ m, k + m = 3001 ∧ 1 ≤ m ∧ s.1 = nI m ∧ s.2.1 = u.1 ∧ ∀ j i, s.2.2.1 j i = if j = 20 ∧ (12004 < i ∧ i < 12004 + m) ∧ t < (i - 12004) * U then 0 else u.2.1 j i) (R := fun v => v.1 = u.1 ∧ ∀ j i, v.2.1 j i = if j = 20 ∧ (12004 < i ∧ i < 15005) ∧ t < (i - 12004) * U then 0 else u.2.1 j i) ?_ F 3000 ((1 : Int32), u) (by omega) ⟨1, by omega, by omega, rfl, rfl, fun j i => by rw [if_neg (by omega)]⟩
  rintro k ⟨s1, s2⟩ ⟨m, hm, hm1, e1, e2, hv⟩
  dsimp only at e1 e2 hv
  subst e1
  unfold g_X10_back_l343 g_X10_back_j376
  dsimp only
  by_cases q : m = 3001
  · right
    subst q
    exact ⟨s2, if_pos (by decide), e2, hv⟩
  · left
    have e23 : rA s2 23 4 = nI U := by
      show s2.2.1 23 4 = _
      rw [hv, if_neg (by omega)]
      exact h23
    have hmU : m * U ≤ 3000 * 64 := Nat.mul_le_mul (by omega) hU
    rw [if_neg (show ¬ (3000 : Int32) < nI m from nI_nlt (a := 3000) (b := m) (by omega) (by decide)), ck_t (by decide), e23, pk_mul, show g_X10_heldAt 4 (nI m) = nI (12004 + m) from heldAt_nI (r := 4) (k := m), ck_t (inb_nI (by omega) (by decide)), lt1_i, sZ_nI (by omega), nar0, nI_1]
    by_cases z : m * U ≤ t
    · rw [if_pos (nI_le z (by omega))]
      refine ⟨_, k - 1, rfl, by omega, m + 1, by omega, by omega, rfl, e2, fun j i => ?_⟩
      rw [hv j i]
      by_cases y : j = 20 ∧ (12004 < i ∧ i < 12004 + m) ∧ t < (i - 12004) * U
      · rw [if_pos y, if_pos ⟨y.1, by omega, y.2.2⟩]
      · rw [if_neg y]
        by_cases x : i = 12004 + m
        · subst x
          rw [if_neg (fun w => by rw [show 12004 + m - 12004 = m by omega] at w; omega)]
        · rw [if_neg (fun w => y ⟨w.1, by omega, w.2.2⟩)]
    · rw [if_neg (nI_ge (by omega) (by omega))]
      refine ⟨_, k - 1, rfl, by omega, m + 1, by omega, by omega, rfl, e2, fun j i => ?_⟩
      rw [R_at, hv j i]
      by_cases x : j = 20 ∧ i = 12004 + m
      · rw [if_pos x]
        obtain ⟨rfl, rfl⟩ := x
        rw [if_pos (by rw [show 12004 + m - 12004 = m by omega]; omega)]
      · rw [if_neg x]
        by_cases y : j = 20 ∧ (12004 < i ∧ i < 12004 + m) ∧ t < (i - 12004) * U
        · rw [if_pos y, if_pos ⟨y.1, by omega, y.2.2⟩]
        · rw [if_neg y, if_neg (fun w => y ⟨w.1, by omega, w.2.2⟩)]
/-- what back comes to -/
def bkD (u u' : rg_U) (W W' t x C' : Nat) : Prop :=
  (u'.2.1 28 = (rpm u 4 t).1 ∧ nr u' 4 = (rpm u 4 t).2 ∧ Tr u' 4 = t ∧ Cr u' 4 = C' ∧ W' = W + (cI (Lm u 4) (nr u 4) - cI (Lm u 4) (rpm u 4 t).2)) ∧
  (∀ j, (j < 15 ∨ (16 ≤ j ∧ j ≤ 18) ∨ (22 ≤ j ∧ j ≤ 24) ∨ j = 26 ∨ j = 30) → u'.2.1 j = u.2.1 j) ∧
  (u'.2.1 25 4 = u.2.1 25 4 + nI x ∧ u'.2.1 27 4 = u.2.1 27 4 + 1 ∧ u'.1 35 = nI x ∧ u'.1 33 = nI W' ∧ u'.1 34 = u.1 34) ∧
  (∀ k, k ≤ 32 → u'.1 k = u.1 k) ∧ (∀ r, r < 4 → agR u u' r) ∧
  (C' ≤ Cr u 4 ∧ ∀ ct : Nat → Nat, (∀ i, i < Cr u 4 → u.2.1 16 (400 + i) = nI (ct i) ∧ ct i < Tr u 4) → (C' = 0 ∨ ct (C' - 1) < t) ∧ ∀ i, C' ≤ i → i < Cr u 4 → t ≤ ct i) ∧
  (∀ k, k ≤ 3000 → Hm u' 4 k = if t < k * Ur u 4 then 0 else Hm u 4 k) ∧
  (∀ s, s ≤ t → rpm u' 4 s = rpm u 4 s) ∧
  (∀ i, i < W → u'.2.1 29 (i + (W' - W)) = u.2.1 29 i) ∧ ∀ k, (rpm u 4 t).2 ≤ k → k < nr u 4 → (Lm u 4).2.1 k = 0 → u'.2.1 29 (cI (Lm u 4) k - cI (Lm u 4) (rpm u 4 t).2) = (Lm u 4).2.2.1 k
end W_25
