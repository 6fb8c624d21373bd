theorem m_goesOn {F K W : Nat} {u : rg_U} (h : okM u K W) (h1 : u.2.1 5 4 = 1) (hs : stM u W = 0) (hT : Tr u 4 < 3000) (hF : 10000 < F) : ∃ u' v W' n', g_X10_goesOn F u = some u' ∧ okM u' K W' ∧ u'.2.1 5 4 = 1 ∧ goT F u = some v ∧ tkD u v W W' n' ∧ goD u u' v n' (mstep (Pm u 4) (u.2.1 28) ((Lm v 4).2.2.1 (nr u 4)) (nI (nr u 4))) := by
  obtain ⟨v, W', n', e1, dT, f1, f33, a1, fr1, a15, ag, hW'⟩ := m_take h.1 h1 hs hF
  have hro := h.1.2.2.2.2.1 4 (Or.inr ⟨rfl, h1⟩)
  obtain ⟨r1, r2, r3, r4, r5, r6, r7, r8, r9⟩ := id hro
  have hn8 := r7.1.2.2.1
  obtain ⟨hR, hTm⟩ := live_ok h.1 h1
  obtain ⟨⟨cn, hc1, hc2⟩, d, hd1, hd2, -⟩ := id hR
  have hlv := h.1.2.2.2.2.2.1 h1
  -- the log that the step goes by
  have ePv : Pm v 4 = Pm u 4 := by
    unfold Pm
    rw [a1 6 (by omega) (by decide), a1 7 (by omega) (by decide), a1 8 (by omega) (by decide), a1 9 (by omega) (by decide)]
  have e28 : v.2.1 28 = u.2.1 28 := a1 28 (by omega) (by decide)
  have hlive : (rp (Pm u 4) (Lm u 4) (nr u 4) (Tr u 4)).1 = u.2.1 28 := hlv.symm
  have htk : tk (Pm u 4) (u.2.1 28) ↔ (kn u = 19 ∨ kn u = 20) := Iff.rfl
  have hy : tk (Pm u 4) (u.2.1 28) → n' = nr u 4 + 1 ∧ ¬ (Lm v 4).2.1 (nr u 4) = 2 ∧ (Lm v 4).1 (nr u 4) = nI (Tr u 4) ∧ nr u 4 < 800 := by
    intro q
    rcases dT with ⟨z1, z2, z3, z4, z5, z6, z7⟩ | ⟨z1, z2, z3, z4, z5, z6⟩ | ⟨z1, z2, z3⟩
    · exact ⟨z5, by rw [z6.2.1]; decide, z6.1, z3⟩
    · exact ⟨z4, by rw [z5.2.1]; decide, z5.1, z2⟩
    · exact absurd q (fun y => y.elim z1 z2)
  have hno : ¬ tk (Pm u 4) (u.2.1 28) → n' = nr u 4 := by
    intro q
    rcases dT with ⟨z1, z2, z3, z4, z5, z6, z7⟩ | ⟨z1, z2, z3, z4, z5, z6⟩ | ⟨z1, z2, z3, z4, z5⟩
    · exact absurd (Or.inl z1) q
    · exact absurd (Or.inr z1) q
    · exact z5
  have hnum : mstep (Pm u 4) (u.2.1 28) (v.2.1 12 (800 * 4 + nr u 4)) (nI (nr u 4)) = mstep (Pm u 4) (u.2.1 28) ((Lm v 4).2.2.1 (nr u 4)) (nI (nr u 4)) := by
    by_cases q : tk (Pm u 4) (u.2.1 28)
    · rw [Lm_2 (hy q).2.2.2]
    · exact step_num r7.1.1 hR (fun z => q (Or.inl z)) (fun z => q (Or.inr z))
  have hst := m_steps (F := F) (o := 28) (r := 4) (cn := cn) (d := d) (ee := nr u 4) (u := v) (by decide) (by decide) (by rw [ePv]; exact r7.1.1) (by rw [e28]; exact hc2) hc1 (by rw [e28]; exact hd2) hd1 (by rw [ePv, ← hc2]; intro q; have := (hy q).2.2.2; omega)
  rw [ePv, e28, hnum] at hst
  obtain ⟨sr1, sr2⟩ := step_rp (P := Pm u 4) (L := Lm u 4) (L' := Lm v 4) (n' := n') r7 ag (by rw [hlive]; exact fun q => ⟨(hy q).1, (hy q).2.1⟩) (by rw [hlive]; exact hno)
  have okw := okW_step (n' := n') r7 ag (by rw [hlive]; exact hy) (by rw [hlive]; exact hno) hT (by
    rw [hlive]
    unfold stM at hs
    by_cases z : u.2.1 28 132 = 0
    · exact z
    · rw [if_neg z] at hs; exact absurd hs z)
  rw [hlive] at sr2
  generalize hz : mstep (Pm u 4) (u.2.1 28) ((Lm v 4).2.2.1 (nr u 4)) (nI (nr u 4)) = z at *
  -- the calls
  have hC100 := r9.1
  obtain ⟨s3, es3, s3f, s3a, s3c⟩ : ∃ s3, g_X10_goesOn_j52 F (kn u) (nI (nr u 4)) v = g_X10_goesOn_j165 F s3 ∧ s3.1 = (sTp v 28 z).1 ∧ (∀ j, (j < 16 ∨ 19 < j) → s3.2.1 j = (sTp v 28 z).2.1 j) ∧ ((isCall u z ∧ s3 = calS (sTp v 28 z) (Cr u 4) (nI (Tr u 4)) (z.1 120) (u.2.1 28 121)) ∨ (¬ isCall u z ∧ s3 = sTp v 28 z)) := by
    unfold g_X10_goesOn_j52
    rw [ck_t (by decide), show g_X10_steps F 28 134 4 (nI (nr u 4)) v = some (sTp v 28 z) from hst, ob_i]
    have e37 : rF (sTp v 28 z) 0 37 = z.2.1 := by
      show upd (upd (upd v.1 37 z.2.1) 38 z.2.2.1) 39 z.2.2.2 37 = _
      rw [pk_un (by decide), pk_un (by decide), pk_us]
    have e19 : rA (sTp v 28 z) 19 4 = nI (Cr u 4) := by
      show (sTp v 28 z).2.1 19 4 = _
      have : (sTp v 28 z).2.1 19 = v.2.1 19 := rw_ne (by decide)
      rw [this, a1 19 (by omega) (by decide)]
      exact r5
    have e21 : rA (sTp v 28 z) 21 4 = nI (Tr u 4) := by
      show (sTp v 28 z).2.1 21 4 = _
      have : (sTp v 28 z).2.1 21 = v.2.1 21 := rw_ne (by decide)
      rw [this, a1 21 (by omega) (by decide)]
      exact r2
    rw [e37]
    by_cases k17 : kn u = 17
    · rw [if_pos k17]
      by_cases q2 : z.2.1 = 0
      · rw [if_pos q2, ck_t (by decide), e19]
        by_cases q3 : Cr u 4 < 100
        · rw [if_neg (show ¬ (100 : Int32) ≤ nI (Cr u 4) from nI_ge (a := Cr u 4) (b := 100) q3 (by decide)), ck_t (by decide), ck_t (by decide), show (400 : Int32) + nI (Cr u 4) = nI (400 + Cr u 4) from nI_add 400 _, ck_t (inb_nI (by omega) (by decide)), e21, lt1_i, sA_nI (by omega), ck_t (by decide), ck_t (by decide)]
          have g19 : rA (rg_R (sTp v 28 z) 16 (400 + Cr u 4) (nI (Tr u 4))) 19 4 = nI (Cr u 4) := e19
          rw [g19, show (400 : Int32) + nI (Cr u 4) = nI (400 + Cr u 4) from nI_add 400 _, ck_t (inb_nI (by omega) (by decide)), lt1_i, sA_nI (by omega), ck_t (by decide)]
          have g28 : rA (rg_R (sTp v 28 z) 16 (400 + Cr u 4) (nI (Tr u 4))) 28 120 = z.1 120 := by
            show (rg_R (sTp v 28 z) 16 (400 + Cr u 4) (nI (Tr u 4))).2.1 28 120 = _
            rw [R_at, if_neg (by omega)]
            exact congrFun rw_at _
          rw [g28]
          have g19' : rA (rg_R (rg_R (sTp v 28 z) 16 (400 + Cr u 4) (nI (Tr u 4))) 17 (400 + Cr u 4) (z.1 120)) 19 4 = nI (Cr u 4) := e19
          rw [g19', show (400 : Int32) + nI (Cr u 4) = nI (400 + Cr u 4) from nI_add 400 _, ck_t (inb_nI (by omega) (by decide)), lt1_i, sA_nI (by omega), ck_t (by decide), ck_t (by decide), lt1_i]
          have g19'' : rA (rg_R (rg_R (rg_R (sTp v 28 z) 16 (400 + Cr u 4) (nI (Tr u 4))) 17 (400 + Cr u 4) (z.1 120)) 18 (400 + Cr u 4) (rA v 28 121)) 19 4 = nI (Cr u 4) := e19
          rw [g19'', nI_1]
          have g121 : rA v 28 121 = u.2.1 28 121 := congrFun e28 121
          rw [g121]
          exact ⟨_, rfl, rfl, fun j hj => calS_n hj, Or.inl ⟨⟨k17, q2, q3⟩, rfl⟩⟩
        · rw [if_pos (show (100 : Int32) ≤ nI (Cr u 4) from nI_le (a := 100) (b := Cr u 4) (by omega) (by omega))]
          exact ⟨_, rfl, rfl, fun _ _ => rfl, Or.inr ⟨fun w => q3 w.2.2, rfl⟩⟩
      · rw [if_neg q2]
        exact ⟨_, rfl, rfl, fun _ _ => rfl, Or.inr ⟨fun w => q2 w.2.1, rfl⟩⟩
    · rw [if_neg k17]
      exact ⟨_, rfl, rfl, fun _ _ => rfl, Or.inr ⟨fun w => k17 w.1, rfl⟩⟩
  have s3n : ∀ j, (j < 10 ∨ 19 < j) → j ≠ 28 → j ≠ 29 → s3.2.1 j = u.2.1 j := fun j h2 h3 h4 => by
    rw [s3a j (by omega)]
    have : (sTp v 28 z).2.1 j = v.2.1 j := rw_ne h3
    rw [this, a1 j (by omega) h4]
  -- the time that comes
  obtain ⟨u', eu', cf, ca, c20, c26, ch⟩ := m_comes (F := F) (t := Tr u 4 + 1) (U := Ur u 4) (D := Dr u 4) (u := rg_R s3 21 4 (nI (Tr u 4 + 1))) (by rw [R_at, if_pos ⟨rfl, rfl⟩]) (by rw [R_at, if_neg (by omega), s3n 23 (by omega) (by decide) (by decide)]; exact r3) (by rw [R_at, if_neg (by omega), s3n 24 (by omega) (by decide) (by decide)]; exact r4) (by omega) (by omega) r6.1 r6.2.1 r6.2.2.2 hF
  have hj165 : g_X10_goesOn_j165 F s3 = some u' := by
    unfold g_X10_goesOn_j165
    have e21 : rA s3 21 4 = nI (Tr u 4) := by
      show s3.2.1 21 4 = _
      rw [s3n 21 (by omega) (by decide) (by decide)]
      exact r2
    rw [ck_t (by decide), ck_t (by decide), e21, nI_1, lt1_i]
    have : sA s3 21 4 (nI (Tr u 4 + 1)) = rg_R s3 21 4 (nI (Tr u 4 + 1)) := rfl
    rw [this, eu', ob_i]
  have hgo : g_X10_goesOn F u = some u' := by
    unfold g_X10_goesOn
    have e120 : rA u 28 120 = nI cn := hc2
    have ekn : kindOf (Pm u 4) (nI cn) = kn u := by unfold kn; rw [hc2]
    rw [ck_t (by decide), e120, show g_X10_kindAt F 4 (nI cn) u = some (kindOf (Pm u 4) (nI cn)) from m_kindAt (r := 4) (by decide) hc1, ob_i, ck_t (by decide), ekn, show rA u 15 4 = nI (nr u 4) from r1]
    unfold goT at e1
    unfold g_X10_goesOn_j32
    by_cases k19 : kn u = 19
    · rw [if_pos k19] at e1
      rw [if_pos k19, e1, ob_i, if_neg (by rw [k19]; decide), es3, hj165]
    · rw [if_neg k19] at e1
      rw [if_neg k19]
      by_cases k20 : kn u = 20
      · rw [if_pos k20] at e1
        have hc64 := (kind_in (P := Pm u 4) hc1 (by rw [ekn, k20]; decide)).1
        rw [hc2, tnn (by omega), Pm_2 hc64] at e1
        rw [if_pos k20, nI_256, ck_t (inb_nI (by omega) (by decide)), rA_nI (by omega), show u.2.1 8 (256 + cn) = u.2.1 8 (64 * 4 + cn) from rfl, e1, ob_i, es3, hj165]
      · rw [if_neg k20] at e1
        cases e1
        rw [if_neg k20, es3, hj165]
  have u'n : ∀ j, j ≠ 20 → j ≠ 21 → j ≠ 26 → u'.2.1 j = s3.2.1 j := fun j h2 h3 h4 => by
    rw [ca j h2 h4]
    exact pm_up_n h3
  have u'o : ∀ j, (j < 10 ∨ (22 ≤ j ∧ j ≠ 26 ∧ j ≠ 28 ∧ j ≠ 29)) → u'.2.1 j = u.2.1 j := fun j hj => by
    rw [u'n j (by omega) (by omega) (by omega), s3n j (by omega) (by omega) (by omega)]
  have u'21 : ∀ i, u'.2.1 21 i = if i = 4 then nI (Tr u 4 + 1) else u.2.1 21 i := fun i => by
    rw [ca 21 (by decide) (by decide), R_at]
    by_cases q : i = 4
    · rw [if_pos ⟨rfl, q⟩, if_pos q]
    · rw [if_neg (fun w => q w.2), if_neg q, s3n 21 (by omega) (by decide) (by decide)]
  have uL : ∀ j, 10 ≤ j → j ≤ 15 → u'.2.1 j = v.2.1 j := fun j h2 h3 => by
    rw [u'n j (by omega) (by omega) (by omega), s3a j (by omega)]
    exact rw_ne (by omega)
  have u28 : u'.2.1 28 = z.1 := by
    rw [u'n 28 (by decide) (by decide) (by decide), s3a 28 (by omega)]
    exact rw_at
  have u29 : u'.2.1 29 = v.2.1 29 := by
    rw [u'n 29 (by decide) (by decide) (by decide), s3a 29 (by omega)]
    exact rw_ne (by decide)
  have uf : ∀ k, k ≠ 37 → k ≠ 38 → k ≠ 39 → u'.1 k = v.1 k := fun k h2 h3 h4 => by
    rw [cf]
    show s3.1 k = _
    rw [s3f]
    show upd (upd (upd v.1 37 z.2.1) 38 z.2.2.1) 39 z.2.2.2 k = _
    rw [pk_un h4, pk_un h3, pk_un h2]
  have eLm : Lm u' 4 = Lm v 4 := by
    unfold Lm
    rw [uL 10 (by decide) (by decide), uL 11 (by decide) (by decide), uL 12 (by decide) (by decide), uL 13 (by decide) (by decide), uL 14 (by decide) (by decide)]
  have ePm : Pm u' 4 = Pm u 4 := by
    unfold Pm
    rw [u'o 6 (by omega), u'o 7 (by omega), u'o 8 (by omega), u'o 9 (by omega)]
  have hn'8 : n' ≤ 800 := okw.1.2.2.1
  have e15' : u'.2.1 15 4 = nI n' := by rw [uL 15 (by decide) (by decide)]; exact a15
  have en' : nr u' 4 = n' := by unfold nr; rw [e15', tnn (by omega)]
  have eT' : Tr u' 4 = Tr u 4 + 1 := by unfold Tr; rw [u'21, if_pos rfl]; exact tnn (by omega)
  have eU' : Ur u' 4 = Ur u 4 := by unfold Ur; rw [u'o 23 (by omega)]
  have eD' : Dr u' 4 = Dr u 4 := by unfold Dr; rw [u'o 24 (by omega)]
  have fr : ∀ r, r < 4 → agR u u' r := fun r hr => by
    have f := fr1 r hr
    refine ⟨fun j b c k e => by rw [u'o j (by omega)], fun j b c k e => by rw [uL j (by omega) (by omega)]; exact f.2.1 j b c k e, fun j b => ?_, fun j b c k e => ?_, fun k c => ?_⟩
    · unfold scal at b
      rcases (show j = 15 ∨ j = 19 ∨ j = 21 ∨ j = 26 ∨ (22 ≤ j ∧ j ≠ 26 ∧ j ≠ 28 ∧ j ≠ 29) by omega) with rfl | rfl | rfl | rfl | q
      · rw [uL 15 (by decide) (by decide)]; exact f.2.2.1 15 (Or.inl rfl)
      · rw [u'n 19 (by decide) (by decide) (by decide)]
        rcases s3c with ⟨-, q⟩ | ⟨-, q⟩
        · rw [q, calS_19, if_neg (by omega)]
          have : (sTp v 28 z).2.1 19 = v.2.1 19 := rw_ne (by decide)
          rw [this, a1 19 (by omega) (by decide)]
        · rw [q]
          have : (sTp v 28 z).2.1 19 = v.2.1 19 := rw_ne (by decide)
          rw [this, a1 19 (by omega) (by decide)]
      · rw [u'21, if_neg (by omega)]
      · rw [c26 r (by omega), R_at, if_neg (by omega), s3n 26 (by omega) (by decide) (by decide)]
      · rw [u'o j (by omega)]
    · rw [u'n j (by omega) (by omega) (by omega)]
      have hv : (sTp v 28 z).2.1 j = u.2.1 j := (rw_ne (by omega)).trans (a1 j (by omega) (by omega))
      rcases s3c with ⟨-, q⟩ | ⟨-, q⟩
      · rw [q, calS_a ⟨b, c⟩, if_neg (by omega), hv]
      · rw [q, hv]
    · rw [c20 _ (by omega), R_at, if_neg (by omega), s3n 20 (by omega) (by decide) (by decide)]
  have hcal : (isCall u z ∧ Cr u' 4 = Cr u 4 + 1 ∧ (∀ j i, 16 ≤ j → j ≤ 18 → i < Cr u 4 → u'.2.1 j (400 + i) = u.2.1 j (400 + i)) ∧ u'.2.1 16 (400 + Cr u 4) = nI (Tr u 4) ∧ u'.2.1 17 (400 + Cr u 4) = z.1 120 ∧ u'.2.1 18 (400 + Cr u 4) = u.2.1 28 121) ∨ (¬ isCall u z ∧ Cr u' 4 = Cr u 4 ∧ ∀ j, 16 ≤ j → j ≤ 18 → u'.2.1 j = u.2.1 j) := by
    have hv : ∀ j, 16 ≤ j → j ≤ 19 → (sTp v 28 z).2.1 j = u.2.1 j := fun j b c => (rw_ne (by omega)).trans (a1 j (by omega) (by omega))
    rcases s3c with ⟨q1, q⟩ | ⟨q1, q⟩
    · refine Or.inl ⟨q1, ?_, fun j i b c e => ?_, ?_, ?_, ?_⟩
      · have e19 : u'.2.1 19 4 = nI (Cr u 4 + 1) := by rw [u'n 19 (by decide) (by decide) (by decide), q, calS_19, if_pos rfl]
        show tn (u'.2.1 19 4) = _
        rw [e19, tnn (by omega)]
      · rw [u'n j (by omega) (by omega) (by omega), q, calS_a ⟨b, c⟩, if_neg (by omega), hv j b (by omega)]
      · rw [u'n 16 (by omega) (by omega) (by omega), q, calS_a (by omega), if_pos rfl]; rfl
      · rw [u'n 17 (by omega) (by omega) (by omega), q, calS_a (by omega), if_pos rfl]; rfl
      · rw [u'n 18 (by omega) (by omega) (by omega), q, calS_a (by omega), if_pos rfl]; rfl
    · refine Or.inr ⟨q1, ?_, fun j b c => ?_⟩
      · unfold Cr; rw [u'n 19 (by decide) (by decide) (by decide), q, hv 19 (by decide) (by decide)]
      · rw [u'n j (by omega) (by omega) (by omega), q, hv j b (by omega)]
  have hheld : (¬ (Tr u 4 + 1) % Ur u 4 = 0 ∧ Hm u' 4 = Hm u 4 ∧ u'.2.1 26 4 = u.2.1 26 4) ∨ ((Tr u 4 + 1) % Ur u 4 = 0 ∧ (∀ k, k ≤ 3000 → Hm u' 4 k = nH (Hm u 4) (Dr u 4) ((Tr u 4 + 1) / Ur u 4) k) ∧ u'.2.1 26 4 = imax (u.2.1 26 4) (nI (cH (Hm u' 4) 3001))) := by
    have eH : Hm (rg_R s3 21 4 (nI (Tr u 4 + 1))) 4 = Hm u 4 := by
      unfold Hm
      have : (rg_R s3 21 4 (nI (Tr u 4 + 1))).2.1 20 = u.2.1 20 := (show (rg_R s3 21 4 (nI (Tr u 4 + 1))).2.1 20 = s3.2.1 20 from rfl).trans (s3n 20 (by omega) (by decide) (by decide))
      rw [this]
    have e26 : (rg_R s3 21 4 (nI (Tr u 4 + 1))).2.1 26 4 = u.2.1 26 4 := by rw [R_at, if_neg (by omega), s3n 26 (by omega) (by decide) (by decide)]
    rcases ch with ⟨q1, q2⟩ | ⟨q1, q2, q3⟩
    · exact Or.inl ⟨q1, by rw [q2]; exact eH, by rw [q2]; exact e26⟩
    · rw [eH] at q2
      rw [e26] at q3
      exact Or.inr ⟨q1, q2, q3⟩
  have hrun : runOK u' 4 := by
    unfold runOK
    rw [en', eT', eU', eD', eLm, ePm]
    refine ⟨e15', by rw [u'21, if_pos rfl], by rw [u'o 23 (by omega)]; exact r3, by rw [u'o 24 (by omega)]; exact r4, ?_, r6, okw, ?_, ?_⟩
    · rcases hcal with ⟨q1, q2, -⟩ | ⟨q1, q2, -⟩
      · rw [q2, u'n 19 (by decide) (by decide) (by decide)]
        rcases s3c with ⟨-, q⟩ | ⟨q, -⟩
        · rw [q, calS_19, if_pos rfl]
        · exact absurd q1 q
      · rw [q2, u'n 19 (by decide) (by decide) (by decide)]
        rcases s3c with ⟨q, -⟩ | ⟨-, q⟩
        · exact absurd q q1
        · rw [q]
          have : (sTp v 28 z).2.1 19 = v.2.1 19 := rw_ne (by decide)
          rw [this, a1 19 (by omega) (by decide)]
          exact r5
    · rcases hheld with ⟨q1, q2, -⟩ | ⟨q1, q2, -⟩
      · rw [q2]; exact okH_m r8 (by omega)
      · exact okH_n r6.1 r8 hT q1 q2
    · obtain ⟨-, ct, g1, g2⟩ := r9
      rcases hcal with ⟨q1, q2, q3, q4, -⟩ | ⟨q1, q2, q3⟩
      · rw [q2]
        have hlt := q1.2.2
        refine ⟨by omega, fun i => if i < Cr u 4 then ct i else Tr u 4, fun i hi => ?_, fun i j hij hj => ?_⟩
        · dsimp only
          by_cases y : i < Cr u 4
          · rw [if_pos y, show 100 * 4 + i = 400 + i by omega, q3 16 i (by omega) (by omega) y]
            exact ⟨(g1 i y).1, by have := (g1 i y).2; omega⟩
          · have : i = Cr u 4 := by omega
            subst this
            rw [if_neg y, show 100 * 4 + Cr u 4 = 400 + Cr u 4 by omega, q4]
            exact ⟨rfl, by omega⟩
        · dsimp only
          rw [if_pos (show i < Cr u 4 by omega)]
          by_cases y : j < Cr u 4
          · rw [if_pos y]; exact g2 i j hij y
          · rw [if_neg y]; exact (g1 i (by omega)).2
      · rw [q2, q3 16 (by decide) (by decide)]
        exact ⟨hC100, ct, fun i hi => ⟨(g1 i hi).1, by have := (g1 i hi).2; omega⟩, g2⟩
  have hrp1 : ∀ t, t ≤ Tr u 4 → rpm u' 4 t = rpm u 4 t := fun t ht => by
    unfold rpm
    rw [en', eLm, ePm]
    exact sr1 t ht
  have hrp2 : rpm u' 4 (Tr u 4 + 1) = (z.1, n') := by
    unfold rpm
    rw [en', eLm, ePm, sr2]
  have u5 : u'.2.1 5 = u.2.1 5 := u'o 5 (by omega)
  subst hz
  refine ⟨u', v, W', n', hgo, ⟨core_now h.1 fr ⟨?_, ?_, ?_, ?_⟩ (fun j b c => u'o j (by omega)) (u'o 30 (by omega)) (fun r _ => by rw [u5]) (by rw [u5]; exact h1) hrun (by rw [eT', hrp2, u28]) ⟨by rw [uf 33 (by decide) (by decide) (by decide)]; exact f33, by rw [eLm, en']; exact hW'⟩, ?_⟩, by rw [u5]; exact h1, e1, dT, ⟨u28, en', eT', eLm, u29, uf 33 (by decide) (by decide) (by decide), uf 34 (by decide) (by decide) (by decide)⟩, fun k b c d e f => by rw [uf k d e f, f1 k b c], u'o, fr, hcal, hheld, hrp1, hrp2⟩
  · rw [uf 4 (by decide) (by decide) (by decide), f1 4 (by decide) (by decide)]
  · rw [uf 5 (by decide) (by decide) (by decide), f1 5 (by decide) (by decide)]
  · rw [uf 29 (by decide) (by decide) (by decide), f1 29 (by decide) (by decide)]
  · rw [uf 30 (by decide) (by decide) (by decide), f1 30 (by decide) (by decide)]
  · have h41 : u'.1 41 = u.1 41 := by rw [uf 41 (by decide) (by decide) (by decide), f1 41 (by decide) (by decide)]
    have h42 : u'.1 42 = u.1 42 := by rw [uf 42 (by decide) (by decide) (by decide), f1 42 (by decide) (by decide)]
    have h31 := u'o 31 (by omega)
    obtain ⟨s1, s2, s4, s5, s6⟩ := h.2
    refine ⟨?_, fun r hr => ?_, ?_, by rw [h31]; exact s5, by rw [u'o 37 (by omega)]; exact s6⟩
    · rw [h41]
      rcases s1 with q3 | ⟨r, q3, q4⟩
      · exact Or.inl q3
      · exact Or.inr ⟨r, by unfold act at q3 ⊢; rw [u5]; exact q3, q4⟩
    · have hr' : act u K r := by unfold act at hr ⊢; rw [← u5]; exact hr
      have hs2 := s2 r hr'
      intro q
      rw [h41] at q
      obtain ⟨t, b1, b2, b3⟩ := hs2 q
      rcases hr' with hlt | ⟨rfl, -⟩
      · have g := fr r (by have := h.1.1.2.1; omega)
        exact ⟨t, by rw [(sc_g g).2.1]; exact b1, by rw [h31, Pm_g g, Lm_g g, (sc_g g).1]; exact b2, by rw [h42, Pm_g g, Lm_g g, (sc_g g).1]; exact b3⟩
      · have e := hrp1 t b1
        unfold rpm at e
        exact ⟨t, by omega, by rw [h31, e]; exact b2, by rw [h42, e]; exact b3⟩
    · intro i hi
      have e : u'.2.1 28 = (rpm u' 4 (Tr u' 4)).1 := by rw [eT', hrp2, u28]
      rw [e]
      exact rpm_z hrun (Nat.le_refl _) i hi
