/-! the class and the reference: poke on both sides -/
section XW
variable {pB : Prop} {F o T N K W p : Nat} {R R' : Nat → Row} {l l' : Nat → Nat} {u u' uc um : rg_U} {s num : Int32}
theorem SI_hi {t : Nat} (h : SI u o R t) (hR : ∀ s, s ≤ t → ∀ k, 120 ≤ k → k < 132 → R' s k = R s k) : SI u o R' t := by
  obtain ⟨h1, h2, h3, d, k1, k2, k3, k4⟩ := h
  have e := hR t (Nat.le_refl _)
  refine ⟨by rw [e 120 (by omega) (by omega)]; exact h1, by rw [e 130 (by omega) (by omega)]; exact h2, by rw [e 131 (by omega) (by omega)]; exact h3, d, k1, by rw [e 121 (by omega) (by omega)]; exact k2, k3, fun f hf => ?_⟩
  obtain ⟨s, b1, b2, b3, b4, b5⟩ := k4 f hf
  exact ⟨s, b1, b2, by rw [e (122 + f) (by omega) (by omega)]; exact b3, by rw [hR s (by omega) 121 (by omega) (by omega)]; exact b4, fun i hi => by rw [hR s (by omega) (122 + i) (by omega) (by omega), e (122 + i) (by omega) (by omega)]; exact b5 i hi⟩
/-- a poke in the table of puts -/
theorem RunS_poke {e : Int32} (h : RunS u o T N R l) (hN : N < 3800) (hp : p < 40) (hR : ∀ t, t < T → R' t = R t) (hRT : R' T = mput (R T) p s num) (hl : ∀ t, t < T → l' t = l t) (hlT : N + 1 ≤ T + l' T) : RunS (restS (addS u (o + 12) N p (nI T) s num (vS (u.2.1 (o + 12 + 5)) 0 (u.2.1 (o + 12 + 11) p) + (if sameV u (o + 12) (u.2.1 (o + 12 + 11) p) s num then 0 else 1)) (u.2.1 (o + 12 + 11) p)) (o + 12) N (-1) e (-1) (-1)) o T (N + 1) R' l' := by
  obtain ⟨h1, h2, h3, h4, h5⟩ := h
  generalize hch : (vS (u.2.1 (o + 12 + 5)) 0 (u.2.1 (o + 12 + 11) p) + (if sameV u (o + 12) (u.2.1 (o + 12 + 11) p) s num then 0 else 1)) = ch
  have hPI := PI_add (s := s) (n := num) h4 hN hp (Nat.le_refl _) h2
  have hPN := (h5 T (Nat.le_refl _)).1
  rw [show o + 13 = o + 12 + 1 from rfl, PI_all h4] at hPN
  have hnew := PRow_new (x := nI T) (s := s) (n := num) (h4.2.2.2.2.1 p hp) hPN (by omega) hp
  rw [hch] at hPI hnew
  generalize hold : u.2.1 (o + 12 + 11) p = old at hPI hnew ⊢
  have hA : ∀ j, (j < o + 19 ∨ o + 22 < j) → (restS (addS u (o + 12) N p (nI T) s num ch old) (o + 12) N (-1) e (-1) (-1)).2.1 j = (addS u (o + 12) N p (nI T) s num ch old).2.1 j := fun j hj => restS_n (by omega)
  refine ⟨?_, h2, fun t ht => ?_, PI_c hPI (congrFun restS_f _) (fun j j1 j2 => hA j (by omega)) (hA _ (by omega)), fun t ht => ?_⟩
  · show (addS u (o + 12) N p (nI T) s num ch old).1 (100 * o + 9) = _
    rw [addS_f (by omega)]
    exact h1
  · have h0 : SI u o R' t := SI_hi (h3 t ht) (fun s' hs' k k1 k2 => by
      rcases Nat.lt_or_ge s' T with y | y
      · rw [hR s' y]
      · rw [show s' = T by omega, hRT, mput_h2 hp k1])
    exact SI_c h0 (fun s' _ => by rw [hA _ (by omega), addS_n (by omega)]) (by rw [hA _ (by omega), addS_n (by omega)]) (by rw [hA _ (by omega), addS_n (by omega)]) (by rw [hA _ (by omega), addS_n (by omega)]) (fun _ _ => rfl)
  · rw [hA (o + 13) (by omega)]
    rcases Nat.lt_or_ge t T with y | y
    · rw [show o + 13 = o + 12 + 1 from rfl, cP_add y (by omega), hR t y, hl t y]
      exact ⟨PRow_c (PRow_add (h5 t ht).1 (cP_le N) (by omega)) (fun j j1 j2 => hA j (by omega)), (h5 t ht).2⟩
    · have et : t = T := by omega
      subst et
      rw [show o + 13 = o + 12 + 1 from rfl, cP_addT (Nat.le_refl _) (by omega), hRT]
      exact ⟨PRow_c hnew (fun j j1 j2 => hA j (by omega)), hlT⟩
theorem RR_poke (hm : okM um K W) (h1 : um.2.1 5 4 = 1) (hn : nr um 4 < 800) (hp : p < 40) (hR : RR pB uc um o 4) (ho : 116 ≤ o) : ∃ uc', g_X7_putByPoke F o (nI p) s num uc = some ((if um.2.1 28 p = s ∧ um.2.1 28 (40 + p) = num then 0 else 1), uc') ∧ RR pB uc' (pokeS um (nr um 4) p s num) o 4 ∧ FX uc uc' o ∧ uc'.1 601 = uc.1 601 ∧ uc'.1 602 = uc.1 602 ∧ uc'.1 603 = uc.1 603 := by
  have hc := hm.1
  have hro := hc.2.2.2.2.1 4 (Or.inr ⟨rfl, h1⟩)
  have hlive := hc.2.2.2.2.2.1 h1
  obtain ⟨q1, q2, q3, q4, q5, ⟨hU, hU2, hD, hD2⟩, hw, hH, hCk⟩ := id hro
  have hT3 := hw.1.2.2.2.1
  obtain ⟨r1, r2, r3, r4, r5, ⟨r6, r7, r8, r9⟩, N, hS⟩ := hR
  have el : (rpm um 4 (Tr um 4)).2 = nr um 4 := hw.2.2.1
  have hN : N ≤ Tr um 4 + nr um 4 := by
    have := (hS.2.2.2.2 (Tr um 4) (Nat.le_refl _)).2
    rw [show o + 13 = o + 12 + 1 from rfl, PI_all hS.2.2.2.1] at this
    dsimp only at this
    omega
  -- the reference's side
  have hA : ∀ j, j ≠ 28 → (pokeS um (nr um 4) p s num).2.1 j = (ntS um (nr um 4) 2 num (nI p) s).2.1 j := fun j hj => pm_up_n hj
  have hB : ∀ j, (j < 10 ∨ 15 < j) → j ≠ 28 → (pokeS um (nr um 4) p s num).2.1 j = um.2.1 j := fun j hj h28 => (hA j h28).trans (ntS_n hj)
  obtain ⟨l1, l2, l3, l4, l5, l6⟩ := ntS_Lm (u := um) (n := nr um 4) (s := 2) (num := num) (pl := nI p) (v := s) hn
  have eL : Lm (pokeS um (nr um 4) p s num) 4 = Lm (ntS um (nr um 4) 2 num (nI p) s) 4 := by
    unfold Lm
    rw [hA 10 (by decide), hA 11 (by decide), hA 12 (by decide), hA 13 (by decide), hA 14 (by decide)]
  have eP : Pm (pokeS um (nr um 4) p s num) 4 = Pm um 4 := by
    unfold Pm
    rw [hB 6 (by decide) (by decide), hB 7 (by decide) (by decide), hB 8 (by decide) (by decide), hB 9 (by decide) (by decide)]
  have eH : Hm (pokeS um (nr um 4) p s num) 4 = Hm um 4 := by
    unfold Hm
    rw [hB 20 (by decide) (by decide)]
  have en : nr (pokeS um (nr um 4) p s num) 4 = nr um 4 + 1 := by
    show tn ((pokeS um (nr um 4) p s num).2.1 15 4) = _
    rw [hA 15 (by decide), ntS_at, if_pos ⟨rfl, rfl⟩, tnn (by omega)]
  have eT : Tr (pokeS um (nr um 4) p s num) 4 = Tr um 4 := by
    unfold Tr
    rw [hB 21 (by decide) (by decide)]
  have eU : Ur (pokeS um (nr um 4) p s num) 4 = Ur um 4 := by
    unfold Ur
    rw [hB 23 (by decide) (by decide)]
  have eD : Dr (pokeS um (nr um 4) p s num) 4 = Dr um 4 := by
    unfold Dr
    rw [hB 24 (by decide) (by decide)]
  have eC : Cr (pokeS um (nr um 4) p s num) 4 = Cr um 4 := by
    unfold Cr
    rw [hB 19 (by decide) (by decide)]
  obtain ⟨y1, y2⟩ := poke_rp hw l1 l3 (l2.trans q2)
  have eR : ∀ t, rpm (pokeS um (nr um 4) p s num) 4 t = rp (Pm um 4) (Lm (ntS um (nr um 4) 2 num (nI p) s) 4) (nr um 4 + 1) t := fun t => by
    unfold rpm
    rw [eP, eL, en]
  have eR1 : ∀ t, t < Tr um 4 → rpm (pokeS um (nr um 4) p s num) 4 t = rpm um 4 t := fun t ht => (eR t).trans (y1 t ht)
  have eRT : rpm (pokeS um (nr um 4) p s num) 4 (Tr um 4) = (mput (rpm um 4 (Tr um 4)).1 p s num, nr um 4 + 1) := by
    rw [eR, y2, l4, l5, l6, tnn (by omega)]
    rfl
  -- the class's side
  have hu1 : RunS (laddS uc (o + 6) (nr um 4) (nI (Tr um 4)) 2 (nI p) s num) o (Tr um 4) N (fun t => (rpm um 4 t).1) (fun t => (rpm um 4 t).2) := by
    obtain ⟨b1, b2, b3, b4, b5⟩ := hS
    refine ⟨(laddS_f (by omega)).trans b1, b2, fun t ht => SI_c (b3 t ht) (fun s' _ => by rw [laddS_n (by omega)]) (by rw [laddS_n (by omega)]) (by rw [laddS_n (by omega)]) (by rw [laddS_n (by omega)]) (fun _ _ => rfl), PI_c b4 (laddS_f (by omega)) (fun j j1 j2 => laddS_n (by omega)) (laddS_n (by omega)), fun t ht => ?_⟩
    rw [laddS_n (show o + 13 < o + 6 + 1 ∨ o + 6 + 5 < o + 13 by omega)]
    exact ⟨PRow_c (b5 t ht).1 (fun j j1 j2 => laddS_n (by omega)), (b5 t ht).2⟩
  have hl1 : LG (laddS uc (o + 6) (nr um 4) (nI (Tr um 4)) 2 (nI p) s num) o (nr um 4 + 1) (Lm (ntS um (nr um 4) 2 num (nI p) s) 4) := LG_add r2 l1 ⟨l2.trans q2, l3, l4, l5, l6⟩
  have hf1 : ∀ i, i ≠ 100 * (o + 6) + 5 → (laddS uc (o + 6) (nr um 4) (nI (Tr um 4)) 2 (nI p) s num).1 i = uc.1 i := fun i hi => laddS_f hi
  have ha1 : ∀ j, (j < o + 7 ∨ o + 11 < j) → (laddS uc (o + 6) (nr um 4) (nI (Tr um 4)) 2 (nI p) s num).2.1 j = uc.2.1 j := fun j hj => laddS_n (by omega)
  have hL5 : rF (laddS uc (o + 6) (nr um 4) (nI (Tr um 4)) 2 (nI p) s num) (o + 6) 5 = nI (nr um 4 + 1) := laddS_N
  have hg1 : (laddS uc (o + 6) (nr um 4) (nI (Tr um 4)) 2 (nI p) s num).2.2 = uc.2.2 := rfl
  unfold g_X7_putByPoke g_X3_addPoke
  rw [hS.1, c_logadd r2.1 hn, ob_i, ob_i, show sF (rg_R (rg_R (rg_R (rg_R (rg_R uc (o + 6 + 1) (nr um 4) (nI (Tr um 4))) (o + 6 + 2) (nr um 4) 2) (o + 6 + 4) (nr um 4) (nI p)) (o + 6 + 5) (nr um 4) s) (o + 6 + 3) (nr um 4) num) (o + 6) 5 (nI (nr um 4 + 1)) = laddS uc (o + 6) (nr um 4) (nI (Tr um 4)) 2 (nI p) s num from rfl]
  generalize laddS uc (o + 6) (nr um 4) (nI (Tr um 4)) 2 (nI p) s num = u1 at *
  have hPI := hu1.2.2.2.1
  have hlat : u1.2.1 (o + 12 + 11) p = lat (u1.2.1 (o + 12 + 2)) p N := hPI.2.2.2.2.1 p hp
  have hPN := (hu1.2.2.2.2 (Tr um 4) (Nat.le_refl _)).1
  rw [show o + 13 = o + 12 + 1 from rfl, PI_all hPI] at hPN
  have hsame : sameV u1 (o + 12) (u1.2.1 (o + 12 + 11) p) s num ↔ um.2.1 28 p = s ∧ um.2.1 28 (40 + p) = num := by
    unfold sameV
    rw [hlat, ← (hPN p hp).1, ← (hPN p hp).2.1, hlive]
  have h9 : rF u1 o 9 = nI (Tr um 4) := hu1.1
  rw [h9, c_add6 hPI.1 (by omega) hp (by rw [hlat]; exact lat_pt N), ob_i]
  dsimp only
  have hrun := RunS_poke (e := nI (nr um 4)) (R' := fun t => (rpm (pokeS um (nr um 4) p s num) 4 t).1) (l' := fun t => (rpm (pokeS um (nr um 4) p s num) 4 t).2) (s := s) (num := num) hu1 (by omega) hp (fun t ht => by rw [eR1 t ht]) (by rw [eRT]) (fun t ht => by rw [eR1 t ht]) (by rw [eRT]; dsimp only; omega)
  have haN : ∀ {ch old : Int32}, rF (addS u1 (o + 12) N p (nI (Tr um 4)) s num ch old) (o + 6) 5 = nI (nr um 4 + 1) := fun {ch old} => (addS_f (by omega)).trans hL5
  rw [haN, nI_pred, c_rest addS_N (by omega), ob_i]
  have hck : (if sameV u1 (o + 12) (u1.2.1 (o + 12 + 11) p) s num then (0 : Int32) else 1) = 0 ∨ (if sameV u1 (o + 12) (u1.2.1 (o + 12 + 11) p) s num then (0 : Int32) else 1) = 1 := it_b (Or.inl rfl) (Or.inr rfl)
  rw [ck_t hck]
  have eans : (if sameV u1 (o + 12) (u1.2.1 (o + 12 + 11) p) s num then (0 : Int32) else 1) = (if um.2.1 28 p = s ∧ um.2.1 28 (40 + p) = num then 0 else 1) := by
    by_cases q : um.2.1 28 p = s ∧ um.2.1 28 (40 + p) = num
    · rw [if_pos q, if_pos (hsame.mpr q)]
    · rw [if_neg q, if_neg (fun z => q (hsame.mp z))]
  generalize hch : (vS (u1.2.1 (o + 12 + 5)) 0 (u1.2.1 (o + 12 + 11) p) + (if sameV u1 (o + 12) (u1.2.1 (o + 12 + 11) p) s num then 0 else 1)) = ch at *
  generalize hold : u1.2.1 (o + 12 + 11) p = old at *
  rw [eans]
  have FF : ∀ i, i ≠ 100 * (o + 12) + 11 → (restS (addS u1 (o + 12) N p (nI (Tr um 4)) s num ch old) (o + 12) N (-1) (nI (nr um 4)) (-1) (-1)).1 i = u1.1 i := fun i hi => addS_f hi
  have AA : ∀ j, (j < o + 13 ∨ o + 23 < j) → (restS (addS u1 (o + 12) N p (nI (Tr um 4)) s num ch old) (o + 12) N (-1) (nI (nr um 4)) (-1) (-1)).2.1 j = u1.2.1 j := fun j hj => by rw [restS_n (by omega), addS_n (by omega)]
  have GG : (restS (addS u1 (o + 12) N p (nI (Tr um 4)) s num ch old) (o + 12) N (-1) (nI (nr um 4)) (-1) (-1)).2.2 = u1.2.2 := rfl
  have CN := rest_new (u := u1) (q := o + 12) (N := N) (p := p) (x := nI (Tr um 4)) (s := s) (n := num) (ch := ch) (old := old) (a := -1) (b := nI (nr um 4)) (c := -1) (d := -1)
  have CO : ∀ j i, o + 13 ≤ j → j ≤ o + 22 → i < N → (restS (addS u1 (o + 12) N p (nI (Tr um 4)) s num ch old) (o + 12) N (-1) (nI (nr um 4)) (-1) (-1)).2.1 j i = u1.2.1 j i := fun j i j1 j2 hi => rest_old (by omega) (by omega) hi
  generalize restS (addS u1 (o + 12) N p (nI (Tr um 4)) s num ch old) (o + 12) N (-1) (nI (nr um 4)) (-1) (-1) = u2 at *
  have hX : RX u2 (pokeS um (nr um 4) p s num) o 4 := by
    have hpk := rS_poke hw l1 l3 (l2.trans q2)
    have er : rpm (pokeS um (nr um 4) p s num) 4 = rp (Pm um 4) (Lm (ntS um (nr um 4) 2 num (nI p) s) 4) (nr um 4 + 1) := funext eR
    refine RX_poke (n := nr um 4) (p := p) r5.2 hS.2.2.2.1 (by omega) hrun.2.2.2.1.1 rfl eT (fun j i j1 j2 hi => (CO j i j1 j2 hi).trans (by rw [ha1 j (by omega)])) hp CN hn (fun t ht => ?_) ?_
    · rw [eP, eL, er]
      exact hpk.1 t ht
    · rw [eP, eL, er, hpk.2, l5, tnn (by omega)]
      rfl
  refine ⟨u2, rfl, ⟨?_, ?_, ?_, ?_, ⟨?_, hX⟩, ⟨?_, ?_, ?_, ?_⟩, N + 1, by rw [eT]; exact hrun⟩, ⟨GG.trans hg1, fun j hj => (AA j (by omega)).trans (ha1 j (by omega)), fun i hi => (FF i (by omega)).trans (hf1 i (by omega))⟩, (FF _ (by omega)).trans (hf1 _ (by omega)), (FF _ (by omega)).trans (hf1 _ (by omega)), (FF _ (by omega)).trans (hf1 _ (by omega))⟩
  · rw [eP]
    intro k hk
    rw [AA (o + 2) (by omega), AA (o + 3) (by omega), AA (o + 4) (by omega), AA (o + 5) (by omega), ha1 (o + 2) (by omega), ha1 (o + 3) (by omega), ha1 (o + 4) (by omega), ha1 (o + 5) (by omega)]
    exact r1 k hk
  · rw [en, eL]
    exact LG_f hl1 (FF _ (by omega)) (fun j j1 j2 => AA j (by omega))
  · unfold CG
    rw [eC, hB 16 (by decide) (by decide), hB 17 (by decide) (by decide), hB 18 (by decide) (by decide), AA (o + 25) (by omega), AA (o + 26) (by omega), AA (o + 27) (by omega), ha1 (o + 25) (by omega), ha1 (o + 26) (by omega), ha1 (o + 27) (by omega)]
    exact ⟨(FF _ (by omega)).trans ((hf1 _ (by omega)).trans r3.1), r3.2⟩
  · rw [eH, eU, eD]
    exact HI_c r4 ((FF _ (by omega)).trans (hf1 _ (by omega))) ((FF _ (by omega)).trans (hf1 _ (by omega))) ((FF _ (by omega)).trans (hf1 _ (by omega))) ((AA _ (by omega)).trans (ha1 _ (by omega)))
  · unfold HB
    rw [eH, eU, eD, eT]
    exact r5.1
  · rw [hB 26 (by decide) (by decide)]
    exact (FF _ (by omega)).trans ((hf1 _ (by omega)).trans r6)
  · rw [eT, eRT]
    dsimp only
    rw [mput_h2 hp (by omega)]
    exact (FF _ (by omega)).trans ((hf1 _ (by omega)).trans r7)
  · intro hb
    rw [hB 25 (by decide) (by decide)]
    exact (FF _ (by omega)).trans ((hf1 _ (by omega)).trans (r8 hb))
  · rw [hB 27 (by decide) (by decide)]
    exact (FF _ (by omega)).trans ((hf1 _ (by omega)).trans r9)
end XW
