/-! the class and the reference: a run on both sides -/
def LG (u : rg_U) (o n : Nat) (L : Lg) : Prop := rF u (o + 6) 5 = nI n ∧ ∀ k, k < n → u.2.1 (o + 7) k = L.1 k ∧ u.2.1 (o + 8) k = L.2.1 k ∧ u.2.1 (o + 9) k = L.2.2.1 k ∧ u.2.1 (o + 10) k = L.2.2.2.1 k ∧ u.2.1 (o + 11) k = L.2.2.2.2 k
def CG (u um : rg_U) (o r : Nat) : Prop := rF u (o + 24) 3 = nI (Cr um r) ∧ ∀ i, i < Cr um r → u.2.1 (o + 25) i = um.2.1 16 (100 * r + i) ∧ u.2.1 (o + 26) i = um.2.1 17 (100 * r + i) ∧ u.2.1 (o + 27) i = um.2.1 18 (100 * r + i)
/-- what is held is held still -/
def HB (um : rg_U) (r : Nat) : Prop := ∀ k, k ≤ 3000 → ¬ Hm um r k = 0 → k = 0 ∨ (k ≤ Tr um r / Ur um r ∧ Tr um r / Ur um r < gw k (Dr um r))
def RR (pB : Prop) (u um : rg_U) (o r : Nat) : Prop := PG u o (Pm um r) ∧ LG u o (nr um r) (Lm um r) ∧ CG u um o r ∧ HI u (o + 28) (Hm um r) (Ur um r) (Dr um r) ∧ (HB um r ∧ RX u um o r) ∧ (rF u (o + 28) 2 = um.2.1 26 r ∧ rF u o 10 = (rpm um r (Tr um r)).1 132 ∧ (pB → rF u o 12 = um.2.1 25 r) ∧ rF u o 13 = um.2.1 27 r) ∧ ∃ N, RunS u o (Tr um r) N (fun t => (rpm um r t).1) (fun t => (rpm um r t).2)
def OutR (u um : rg_U) (W : Nat) : Prop := ∃ A, okO9 u A W ∧ (∀ i, i < W → wt9 u A i = um.2.1 29 i) ∧ rF u 6 3 = um.1 34
section XT
variable {pB : Prop} {F o r T N : Nat} {R R' : Nat → Row} {l l' : Nat → Nat} {u u' um um' : rg_U}
theorem RunS_c (h : RunS u o T N R l) (hR : ∀ t, t ≤ T → R' t = R t) (hl : ∀ t, t ≤ T → l' t = l t) : RunS u o T N R' l' := by
  obtain ⟨h1, h2, h3, h4, h5⟩ := h
  refine ⟨h1, h2, fun t ht => SI_c (h3 t ht) (fun _ _ => rfl) rfl rfl rfl (fun s hs => hR s (by omega)), h4, fun t ht => ?_⟩
  rw [hR t ht, hl t ht]
  exact h5 t ht
theorem RunS_f (h : RunS u o T N R l) (ha : ∀ j, o < j → j ≤ o + 33 → u'.2.1 j = u.2.1 j) (hf : ∀ k, 100 * o ≤ k → k < 100 * (o + 34) → u'.1 k = u.1 k) : RunS u' o T N R l := by
  obtain ⟨h1, h2, h3, h4, h5⟩ := h
  refine ⟨(hf _ (by omega) (by omega)).trans h1, h2, fun t ht => SI_c (h3 t ht) (fun s _ => by rw [ha (o + 30) (by omega) (by omega)]) (by rw [ha (o + 31) (by omega) (by omega)]) (by rw [ha (o + 32) (by omega) (by omega)]) (by rw [ha (o + 33) (by omega) (by omega)]) (fun _ _ => rfl), PI_c h4 (hf _ (by omega) (by omega)) (fun j j1 j2 => ha j (by omega) (by omega)) (ha _ (by omega) (by omega)), fun t ht => ?_⟩
  rw [ha (o + 13) (by omega) (by omega)]
  exact ⟨PRow_c (h5 t ht).1 (fun j j1 j2 => ha j (by omega) (by omega)), (h5 t ht).2⟩
/-- the run asks for what is its own alone -/
theorem RR_f (h : RR pB u um o r) (ha : ∀ j, o < j → j ≤ o + 33 → u'.2.1 j = u.2.1 j) (hf : ∀ k, 100 * o ≤ k → k < 100 * (o + 34) → u'.1 k = u.1 k) : RR pB u' um o r := by
  obtain ⟨h1, h2, h3, h4, h5, ⟨h6, h7, h8, h9⟩, N, h10⟩ := h
  refine ⟨fun k hk => ?_, ⟨(hf _ (by omega) (by omega)).trans h2.1, fun k hk => ?_⟩, ⟨(hf _ (by omega) (by omega)).trans h3.1, fun k hk => ?_⟩, HI_c h4 (hf _ (by omega) (by omega)) (hf _ (by omega) (by omega)) (hf _ (by omega) (by omega)) (ha _ (by omega) (by omega)), ⟨h5.1, RX_f h5.2 (fun j j1 j2 => ha j (by omega) (by omega)) (hf _ (by omega) (by omega))⟩, ⟨(hf _ (by omega) (by omega)).trans h6, (hf _ (by omega) (by omega)).trans h7, fun hb => (hf _ (by omega) (by omega)).trans (h8 hb), (hf _ (by omega) (by omega)).trans h9⟩, N, RunS_f h10 ha hf⟩
  · rw [ha (o + 2) (by omega) (by omega), ha (o + 3) (by omega) (by omega), ha (o + 4) (by omega) (by omega), ha (o + 5) (by omega) (by omega)]; exact h1 k hk
  · rw [ha (o + 7) (by omega) (by omega), ha (o + 8) (by omega) (by omega), ha (o + 9) (by omega) (by omega), ha (o + 10) (by omega) (by omega), ha (o + 11) (by omega) (by omega)]; exact h2.2 k hk
  · rw [ha (o + 25) (by omega) (by omega), ha (o + 26) (by omega) (by omega), ha (o + 27) (by omega) (by omega)]; exact h3.2 k hk
/-- the reference's run is the same -/
theorem RR_g (h : RR pB u um o r) (hC : Cr um r ≤ 100) (hg : agR um um' r) : RR pB u um' o r := by
  obtain ⟨h1, h2, h3, h4, h5, ⟨h6, h7, h8, h9⟩, N, h10⟩ := h
  obtain ⟨e1, e2, e3, e4, e5⟩ := sc_g hg
  have eR : ∀ t, rpm um' r t = rpm um r t := fun t => rpm_g hg
  have hs := hg.2.2.1
  unfold RR CG HB
  rw [Pm_g hg, Lm_g hg, Hm_g hg, e1, e2, e3, e4, e5, eR, hs 25 (Or.inr (Or.inr (by decide))), hs 26 (Or.inr (Or.inr (by decide))), hs 27 (Or.inr (Or.inr (by decide)))]
  refine ⟨h1, h2, ⟨h3.1, fun i hi => ?_⟩, h4, ⟨h5.1, RX_m h5.2 (Pm_g hg) (Lm_g hg) eR e2⟩, ⟨h6, h7, h8, h9⟩, N, RunS_c h10 (fun t _ => by rw [eR]) (fun t _ => by rw [eR])⟩
  rw [hg.2.2.2.1 16 (by decide) (by decide) i (by omega), hg.2.2.2.1 17 (by decide) (by decide) i (by omega), hg.2.2.2.1 18 (by decide) (by decide) i (by omega)]
  exact h3.2 i hi
/-- only what goes along and lies aside is other on the reference's side -/
theorem agR_e (h : coreEq um um') : agR um um' r := agR_A (fun j h1 h2 => h.1 j (by omega))
theorem RR_e (h : RR pB u um o r) (hC : Cr um r ≤ 100) (he : coreEq um um') : RR pB u um' o r := RR_g h hC (agR_e he)
/-- what is counted as replayed, on both sides -/
theorem RR_cS {x : Int32} (h : RR pB u um o r) (ho : 100 ≤ o) : RR pB (sF (sF u o 12 (rF u o 12 + x)) 0 13 (rF u 0 13 + x)) (cS um r x) o r := by
  have hA : ∀ j, j ≠ 25 → (cS um r x).2.1 j = um.2.1 j := fun j hj => by
    show va_up um.2.1 25 _ j = _
    exact pm_up_n hj
  have e25 : (cS um r x).2.1 25 r = um.2.1 25 r + x := by
    show va_up um.2.1 25 (upd (um.2.1 25) r (um.2.1 25 r + x)) 25 r = _
    rw [pm_up_s, pk_us]
  have hP : Pm (cS um r x) r = Pm um r := by
    unfold Pm
    rw [hA 6 (by decide), hA 7 (by decide), hA 8 (by decide), hA 9 (by decide)]
  have hL : Lm (cS um r x) r = Lm um r := by
    unfold Lm
    rw [hA 10 (by decide), hA 11 (by decide), hA 12 (by decide), hA 13 (by decide), hA 14 (by decide)]
  have hH : Hm (cS um r x) r = Hm um r := by
    unfold Hm
    rw [hA 20 (by decide)]
  have h0 : RR pB (sF (sF u o 12 (rF u o 12 + x)) 0 13 (rF u 0 13 + x)) (cS um r x) o r ↔ RR pB (sF (sF u o 12 (rF u o 12 + x)) 0 13 (rF u 0 13 + x)) (cS um r x) o r := Iff.rfl
  obtain ⟨h1, h2, h3, h4, h5, ⟨h6, h7, h8, h9⟩, N, h10⟩ := h
  have hf : ∀ k, k ≠ 100 * o + 12 → k ≠ 13 → (sF (sF u o 12 (rF u o 12 + x)) 0 13 (rF u 0 13 + x)).1 k = u.1 k := fun k k1 k2 => by rw [sF_n (by omega), sF_n k1]
  unfold RR CG HB nr Cr Ur Dr Tr
  rw [hP, hL, hH, hA 15 (by decide), hA 19 (by decide), hA 23 (by decide), hA 24 (by decide), hA 21 (by decide), hA 26 (by decide), hA 27 (by decide), hA 16 (by decide), hA 17 (by decide), hA 18 (by decide), e25, rpm_cS]
  refine ⟨h1, ⟨(hf _ (by omega) (by omega)).trans h2.1, h2.2⟩, ⟨(hf _ (by omega) (by omega)).trans h3.1, h3.2⟩, HI_c h4 (hf _ (by omega) (by omega)) (hf _ (by omega) (by omega)) (hf _ (by omega) (by omega)) rfl, ⟨h5.1, RX_m (RX_f h5.2 (fun _ _ _ => rfl) (hf _ (by omega) (by omega))) hP hL (fun t => rpm_cS) (by unfold Tr; rw [hA 21 (by decide)])⟩, ⟨(hf _ (by omega) (by omega)).trans h6, (hf _ (by omega) (by omega)).trans h7, ?_, (hf _ (by omega) (by omega)).trans h9⟩, N, ?_⟩
  · intro hb
    show (sF (sF u o 12 (rF u o 12 + x)) 0 13 (rF u 0 13 + x)).1 (100 * o + 12) = _
    rw [sF_n (by omega)]
    show rF (sF u o 12 (rF u o 12 + x)) o 12 = _
    rw [sF_y, h8 hb]
  · obtain ⟨a1, a2, a3, a4, a5⟩ := h10
    exact RunS_c (R := fun t => (rpm um r t).1) (l := fun t => (rpm um r t).2) ⟨(hf _ (by omega) (by omega)).trans a1, a2, a3, PI_c a4 (hf _ (by omega) (by omega)) (fun _ _ _ => rfl) rfl, a5⟩ (fun t _ => by rw [rpm_cS]) (fun t _ => by rw [rpm_cS])
end XT
