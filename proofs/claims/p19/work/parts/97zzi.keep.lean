/-! the class and the reference: keep and begin on both sides -/
section YA
variable {pB : Prop} {F q q' T N k o0 o1 K t : Nat} {d x : Int32} {u w uc um um' : rg_U} {m : Row} {R : Nat → Row} {l : Nat → Nat}
theorem vS_cN {f g : Nat → Int32} (h : ∀ n, n < N → f n = g n) (hx : isPt N x) (hN : N < 2 ^ 31) : vS f d x = vS g d x := by
  rcases hx with rfl | ⟨n, hn, rfl⟩
  · rw [vS_0, vS_0]
  · rw [vS_n (by omega), vS_n (by omega), h n hn]
theorem PI_mv (h : PI u q T N) (hf : rF w q' 11 = nI N) (ha : ∀ z, 1 ≤ z → z ≤ 6 → ∀ n, n < N → w.2.1 (q' + z) n = u.2.1 (q + z) n) (hb : ∀ p, p < 40 → w.2.1 (q' + 11) p = u.2.1 (q + 11) p) : PI w q' T N := by
  obtain ⟨h1, h2, h3, h4, h5, h6⟩ := h
  have hl : ∀ p n, n ≤ N → lat (w.2.1 (q' + 2)) p n = lat (u.2.1 (q + 2)) p n := fun p n hn => lat_c n (fun i hi => ha 2 (by omega) (by omega) i (by omega))
  refine ⟨hf, h2, h3, fun i j hij hj => ?_, fun p hp => ?_, fun n hn => ?_⟩
  · rw [ha 1 (by omega) (by omega) i (by omega), ha 1 (by omega) (by omega) j hj]
    exact h4 i j hij hj
  · rw [hb p hp, hl p N (Nat.le_refl _)]
    exact h5 p hp
  · obtain ⟨s, p, b1, b2, b3, b4, b5, b6⟩ := h6 n hn
    have hpt : isPt N (u.2.1 (q + 6) n) := by rw [b5]; exact lat_ok (by omega)
    refine ⟨s, p, b1, b2, by rw [ha 1 (by omega) (by omega) n hn]; exact b3, by rw [ha 2 (by omega) (by omega) n hn]; exact b4, by rw [ha 6 (by omega) (by omega) n hn, hl p n (by omega)]; exact b5, ?_⟩
    rw [ha 5 (by omega) (by omega) n hn, ha 6 (by omega) (by omega) n hn, ha 3 (by omega) (by omega) n hn, ha 4 (by omega) (by omega) n hn, vS_cN (fun i hi => ha 5 (by omega) (by omega) i hi) hpt (by omega), vS_cN (fun i hi => ha 3 (by omega) (by omega) i hi) hpt (by omega), vS_cN (fun i hi => ha 4 (by omega) (by omega) i hi) hpt (by omega)]
    exact b6
theorem PRow_mv (h : PRow u q k m) (hk : k ≤ N) (hN : N < 2 ^ 31) (ha : ∀ z, 1 ≤ z → z ≤ 6 → ∀ n, n < N → w.2.1 (q' + z) n = u.2.1 (q + z) n) : PRow w q' k m := by
  intro p hp
  have hl : lat (w.2.1 (q' + 2)) p k = lat (u.2.1 (q + 2)) p k := lat_c k (fun i hi => ha 2 (by omega) (by omega) i (by omega))
  have hpt : isPt N (lat (u.2.1 (q + 2)) p k) := lat_ok hk
  rw [hl, vS_cN (fun i hi => ha 3 (by omega) (by omega) i hi) hpt hN, vS_cN (fun i hi => ha 4 (by omega) (by omega) i hi) hpt hN, vS_cN (fun i hi => ha 5 (by omega) (by omega) i hi) hpt hN]
  exact h p hp
theorem SI_mv (h : SI u o1 R t) (ha : ∀ z, 30 ≤ z → z ≤ 33 → ∀ s, s ≤ t → w.2.1 (o0 + z) s = u.2.1 (o1 + z) s) : SI w o0 R t := by
  obtain ⟨h1, h2, h3, h4⟩ := h
  refine ⟨by rw [ha 30 (by omega) (by omega) t (Nat.le_refl _)]; exact h1, by rw [ha 31 (by omega) (by omega) t (Nat.le_refl _)]; exact h2, by rw [ha 32 (by omega) (by omega) t (Nat.le_refl _)]; exact h3, KI_c h4 (fun s hs => ha 30 (by omega) (by omega) s (by omega)) (ha 33 (by omega) (by omega) t (Nat.le_refl _)) (fun _ _ => rfl)⟩
/-- a run is kept -/
theorem RR_mv {L P C H : Nat} (hR : RR pB uc um o1 4) (hro : runOK um 4) (hmv : mvR um um' 4 K) (hL : L = nr um 4) (hC : C = Cr um 4) (hP : rF uc (o1 + 12) 11 = nI P) (hP8 : P ≤ 3800) (hH : rF uc (o1 + 28) 1 = nI H) (hH8 : H ≤ 64) (hT : T = Tr um 4) (ha : ∀ z i, 2 ≤ z → z ≤ 33 → z ≠ 6 → z ≠ 12 → z ≠ 24 → z ≠ 28 → i < rowN z L P C H T → w.2.1 (o0 + z) i = uc.2.1 (o1 + z) i) (hf : rF w (o0 + 6) 5 = nI L ∧ rF w (o0 + 12) 11 = nI P ∧ rF w (o0 + 24) 3 = nI C ∧ rF w (o0 + 28) 1 = nI H ∧ rF w (o0 + 28) 2 = rF uc (o1 + 28) 2 ∧ rF w (o0 + 28) 3 = rF uc (o1 + 28) 3 ∧ rF w (o0 + 28) 4 = rF uc (o1 + 28) 4) (hg : rF w o0 9 = nI T ∧ rF w o0 10 = rF uc o1 10 ∧ rF w o0 12 = rF uc o1 12 ∧ rF w o0 13 = rF uc o1 13) : RR pB w um' o0 K := by
  subst hL hC hT
  have hCk := hro.2.2.2.2.2.2.2.2
  obtain ⟨r1, r2, r3, r4, r5, ⟨r6, r7, r8, r9⟩, N, hS⟩ := hR
  obtain ⟨e1, e2, e3, e4, e5, e6, e7, e8⟩ := mv_e hmv
  have eR : ∀ t, rpm um' K t = rpm um 4 t := fun t => by
    unfold rpm
    rw [e1, e2, e4]
  have eN : N = P := nI_inj (by have := hS.2.2.2.1.2.1; omega) (by omega) (hS.2.2.2.1.1.symm.trans hP)
  subst eN
  have hs := hmv.2.2.1
  have hX : RX w um' o0 K := RX_mv (N := N) r5.2 hP hP8 hf.2.1 (fun z n z1 z2 hn => ha z n (by omega) (by omega) (by omega) (by omega) (by omega) (by omega) (by unfold rowN; rw [if_neg (by omega), if_neg (by omega), if_pos (by omega)]; exact hn)) e1 e2 eR e5
  unfold RR CG HB
  rw [e1, e2, e3, e4, e5, e6, e7, e8, eR, hs 25 (Or.inr (Or.inr (by decide))) (by decide), hs 26 (Or.inr (Or.inr (by decide))) (by decide), hs 27 (Or.inr (Or.inr (by decide))) (by decide)]
  have hp : ∀ z, 1 ≤ z → z ≤ 6 → ∀ n, n < N → w.2.1 (o0 + 12 + z) n = uc.2.1 (o1 + 12 + z) n := fun z z1 z2 n hn => by
    rw [Nat.add_assoc, Nat.add_assoc]
    exact ha (12 + z) n (by omega) (by omega) (by omega) (by omega) (by omega) (by omega) (by unfold rowN; rw [if_neg (by omega), if_neg (by omega), if_pos (by omega)]; exact hn)
  refine ⟨fun k hk => ?_, ⟨hf.1, fun k hk => ?_⟩, ⟨hf.2.2.1, fun i hi => ?_⟩, ?_, ⟨r5.1, hX⟩, ⟨hf.2.2.2.2.1.trans r6, hg.2.1.trans r7, fun hb => hg.2.2.1.trans (r8 hb), hg.2.2.2.trans r9⟩, N, ?_⟩
  · rw [ha 2 k (by omega) (by omega) (by omega) (by omega) (by omega) (by omega) hk, ha 3 k (by omega) (by omega) (by omega) (by omega) (by omega) (by omega) hk, ha 4 k (by omega) (by omega) (by omega) (by omega) (by omega) (by omega) hk, ha 5 k (by omega) (by omega) (by omega) (by omega) (by omega) (by omega) hk]
    exact r1 k hk
  · rw [ha 7 k (by omega) (by omega) (by omega) (by omega) (by omega) (by omega) hk, ha 8 k (by omega) (by omega) (by omega) (by omega) (by omega) (by omega) hk, ha 9 k (by omega) (by omega) (by omega) (by omega) (by omega) (by omega) hk, ha 10 k (by omega) (by omega) (by omega) (by omega) (by omega) (by omega) hk, ha 11 k (by omega) (by omega) (by omega) (by omega) (by omega) (by omega) hk]
    exact r2.2 k hk
  · have hC1 := hCk.1
    rw [ha 25 i (by omega) (by omega) (by omega) (by omega) (by omega) (by omega) hi, ha 26 i (by omega) (by omega) (by omega) (by omega) (by omega) (by omega) hi, ha 27 i (by omega) (by omega) (by omega) (by omega) (by omega) (by omega) hi, hmv.2.2.2.1 16 (by decide) (by decide) i (by omega), hmv.2.2.2.1 17 (by decide) (by decide) i (by omega), hmv.2.2.2.1 18 (by decide) (by decide) i (by omega)]
    exact r3.2 i hi
  · obtain ⟨h3, h4, n, f, h1, h64, hA, hl⟩ := r4
    have en : n = H := nI_inj (by omega) (by omega) (h1.symm.trans hH)
    subst en
    refine ⟨hf.2.2.2.2.2.1.trans h3, hf.2.2.2.2.2.2.trans h4, n, f, hf.2.2.2.1, h64, fun i hi => ?_, hl⟩
    rw [show o0 + 28 + 1 = o0 + 29 from rfl, ha 29 i (by omega) (by omega) (by omega) (by omega) (by omega) (by omega) hi]
    exact hA i hi
  · have h11 : ∀ p, p < 40 → w.2.1 (o0 + 12 + 11) p = uc.2.1 (o1 + 12 + 11) p := fun p hp' => ha 23 p (by omega) (by omega) (by omega) (by omega) (by omega) (by omega) hp'
    have hrun : RunS w o0 (Tr um 4) N (fun t => (rpm um 4 t).1) (fun t => (rpm um 4 t).2) := by
      obtain ⟨a1, a2, a3, a4, a5⟩ := hS
      refine ⟨hg.1, a2, fun t ht => SI_mv (a3 t ht) (fun z z1 z2 s hs' => ha z s (by omega) (by omega) (by omega) (by omega) (by omega) (by omega) (by unfold rowN; rw [if_neg (by omega), if_neg (by omega), if_neg (by omega), if_neg (by omega), if_neg (by omega), if_neg (by omega)]; omega)), PI_mv a4 hf.2.1 hp h11, fun t ht => ?_⟩
      have ec : cP (w.2.1 (o0 + 13)) t N = cP (uc.2.1 (o1 + 13)) t N := cP_c N (fun i hi => hp 1 (by omega) (by omega) i hi)
      rw [ec]
      exact ⟨PRow_mv (a5 t ht).1 (cP_le N) (by omega) hp, (a5 t ht).2⟩
    exact RunS_c hrun (fun t _ => by rw [eR]) (fun t _ => by rw [eR])
/-- a run begins -/
theorem RR_new {v : rg_U} {U D : Nat} (hv : ∀ z k, z < 4 → k < 64 → v.2.1 (118 + z) k = um.2.1 (1 + z) k) (h9 : rF v 0 9 = um.1 4) (h10 : rF v 0 10 = um.1 5) (hU : um.1 4 = nI U) (hD : um.1 5 = nI D) (hok : okP (Pm um' 4)) (hU2 : U ≤ 64) (hD2 : D ≤ 8) (hA : ∀ j i, um'.2.1 j i = m_begunA um j i) : RR pB (sF (sF (c_begun v) 6 1 0) 6 2 0) um' 116 4 := by
  have e4 : ∀ j, (15 ≤ j ∧ j ≤ 27 ∧ j ≠ 16 ∧ j ≠ 17 ∧ j ≠ 18 ∧ j ≠ 20 ∧ j ≠ 22) → um'.2.1 j 4 = if j = 26 then 1 else if j = 24 then um.1 5 else if j = 23 then um.1 4 else 0 := fun j hj => by
    rw [hA]
    unfold m_begunA
    rw [if_neg (by omega)]
    rcases (show j = 15 ∨ j = 19 ∨ j = 21 ∨ j = 23 ∨ j = 24 ∨ j = 25 ∨ j = 26 ∨ j = 27 by omega) with rfl | rfl | rfl | rfl | rfl | rfl | rfl | rfl <;> simp
  have en : nr um' 4 = 0 := by
    unfold nr
    rw [e4 15 (by omega)]
    rfl
  have eT : Tr um' 4 = 0 := by
    unfold Tr
    rw [e4 21 (by omega)]
    rfl
  have eC : Cr um' 4 = 0 := by
    unfold Cr
    rw [e4 19 (by omega)]
    rfl
  have eU : Ur um' 4 = U := by
    unfold Ur
    rw [e4 23 (by omega)]
    show tn (um.1 4) = U
    rw [hU, tnn (by omega)]
  have eD : Dr um' 4 = D := by
    unfold Dr
    rw [e4 24 (by omega)]
    show tn (um.1 5) = D
    rw [hD, tnn (by omega)]
  have eH : ∀ k, k ≤ 3000 → Hm um' 4 k = if k = 0 then 1 else 0 := fun k hk => by
    rw [Hm_k (by omega), hA]
    unfold m_begunA
    rw [if_neg (by omega), if_neg (by omega), if_neg (by omega), if_neg (by omega), if_neg (by omega), if_neg (by omega), if_neg (by omega), if_pos (by omega)]
    by_cases q : k = 0
    · rw [if_pos (by omega), if_pos q]
    · rw [if_neg (by omega), if_neg q]
  have eP : ∀ z k, z < 4 → k < 64 → um'.2.1 (6 + z) (64 * 4 + k) = um.2.1 (1 + z) k := fun z k hz hk => by
    rw [hA]
    unfold m_begunA
    rw [if_neg (by omega), if_neg (by omega), if_neg (by omega), if_neg (by omega), if_neg (by omega), if_neg (by omega), if_neg (by omega), if_neg (by omega), if_neg (by omega), if_neg (by omega), if_neg (by omega), if_pos (by omega), show 6 + z - 5 = 1 + z by omega, show 64 * 4 + k - 256 = k by omega]
  have eR : rpm um' 4 0 = (zrow, 0) := by
    unfold rpm
    rw [en]
    exact (okW_new hok).2
  have hX : RX (sF (sF (c_begun v) 6 1 0) 6 2 0) um' 116 4 := by
    unfold RX
    rw [show rF (sF (sF (c_begun v) 6 1 0) 6 2 0) (116 + 12) 11 = nI 0 from rfl, eT, tnn (by omega)]
    refine RXC_0 (fun p k => ?_)
    show ¬ pkS (Lm um' 4) 0 (rpm um' 4 0).2 (fun _ _ => False) p k
    rw [eR]
    exact fun w => w
  refine ⟨fun k hk => ?_, ⟨?_, fun k hk => ?_⟩, ⟨?_, fun i hi => ?_⟩, ⟨?_, ?_, 1, fun _ => 0, ?_, by omega, fun i hi => ?_, fun i j hij hj => by omega, fun k => ?_⟩, ⟨fun k hk hz => ?_, hX⟩, ⟨?_, ?_, ?_, ?_⟩, 0, ?_, by rw [eT]; omega, fun t ht => ?_, ⟨?_, by omega, by rw [eT]; omega, fun i j _ hj => by omega, fun p hp => ?_, fun n hn => by omega⟩, fun t ht => ?_⟩
  · rw [Pm_0 hk, Pm_1 hk, Pm_2 hk, Pm_3 hk, eP 0 k (by omega) hk, eP 1 k (by omega) hk, eP 2 k (by omega) hk, eP 3 k (by omega) hk]
    exact ⟨hv 0 k (by omega) hk, hv 1 k (by omega) hk, hv 2 k (by omega) hk, hv 3 k (by omega) hk⟩
  · rw [en]; rfl
  · rw [en] at hk; omega
  · rw [eC]; rfl
  · rw [eC] at hi; omega
  · rw [eU, ← hU, ← h9]; rfl
  · rw [eD, ← hD, ← h10]; rfl
  · rfl
  · rw [show i = 0 by omega, Nat.zero_mul]; rfl
  · constructor
    · rintro ⟨a, b⟩
      rw [eH k a] at b
      by_cases y : k = 0
      · exact ⟨0, by omega, y.symm⟩
      · rw [if_neg y] at b; exact absurd rfl b
    · rintro ⟨i, hi, e⟩
      have e : 0 = k := e
      subst e
      rw [eH 0 (by omega), if_pos rfl]
      exact ⟨by omega, by decide⟩
  · rw [eH k hk] at hz
    by_cases y : k = 0
    · exact Or.inl y
    · rw [if_neg y] at hz; exact absurd rfl hz
  · rw [e4 26 (by omega)]; rfl
  · rw [eT, eR]; rfl
  · intro _
    rw [e4 25 (by omega)]; rfl
  · rw [e4 27 (by omega)]; rfl
  · rw [eT]; rfl
  · have t0 : t = 0 := by rw [eT] at ht; omega
    subst t0
    unfold SI KI
    dsimp only
    rw [eR]
    refine ⟨?_, ?_, ?_, 0, by omega, rfl, fun _ => ?_, fun e he => by omega⟩
    · rfl
    · rfl
    · rfl
    · rfl
  · rfl
  · show (if p < 40 then (-1 : Int32) else _) = _
    rw [if_pos hp]
    rfl
  · have t0 : t = 0 := by rw [eT] at ht; omega
    subst t0
    dsimp only
    rw [eR]
    exact ⟨fun p hp => ⟨rfl, rfl, rfl⟩, Nat.zero_le _⟩
end YA
