/-! the class and the reference: calls that only read, whatever they answer -/
def RF (um um' : rg_U) : Prop := (∀ j, j ≤ 30 → j ≠ 25 → um'.2.1 j = um.2.1 j) ∧ ∀ k, k ≤ 34 → um'.1 k = um.1 k
theorem RF_r {um : rg_U} : RF um um := ⟨fun _ _ _ => rfl, fun _ _ => rfl⟩
theorem RF_e {um um' : rg_U} (h : coreEq um um') : RF um um' := ⟨fun j hj _ => h.1 j hj, fun k hk => h.2 k (by omega)⟩
theorem RF_t {u v w : rg_U} (h : RF u v) (h2 : RF v w) : RF u w := ⟨fun j a b => (h2.1 j a b).trans (h.1 j a b), fun k a => (h2.2 k a).trans (h.2 k a)⟩
theorem RF_35 {um : rg_U} {x : Int32} : RF um (sF um 0 35 x) := ⟨fun _ _ _ => rfl, fun k hk => sF_n (by omega)⟩
theorem RF_cS {um : rg_U} {r : Nat} {x : Int32} : RF um (cS um r x) := ⟨fun j _ hj => pm_up_n hj, fun k hk => sF_n (by omega)⟩
section YG
variable {F K W o r : Nat} {u u' uc um uc' um' : rg_U} {x y z v q s n : Int32}
theorem RR_any (h : RR False u um o r) (ha : ∀ j, o < j → j ≤ o + 33 → u'.2.1 j = u.2.1 j) (hf : ∀ k, 100 * o ≤ k → k < 100 * (o + 34) → k ≠ 100 * o + 12 → u'.1 k = u.1 k) (hA : ∀ j, j ≤ 30 → j ≠ 25 → um'.2.1 j = um.2.1 j) : RR False u' um' o r := by
  have eP : Pm um' r = Pm um r := by
    unfold Pm
    rw [hA 6 (by decide) (by decide), hA 7 (by decide) (by decide), hA 8 (by decide) (by decide), hA 9 (by decide) (by decide)]
  have eL : Lm um' r = Lm um r := by
    unfold Lm
    rw [hA 10 (by decide) (by decide), hA 11 (by decide) (by decide), hA 12 (by decide) (by decide), hA 13 (by decide) (by decide), hA 14 (by decide) (by decide)]
  have eH : Hm um' r = Hm um r := by
    unfold Hm
    rw [hA 20 (by decide) (by decide)]
  have en : nr um' r = nr um r := by unfold nr; rw [hA 15 (by decide) (by decide)]
  have eT : Tr um' r = Tr um r := by unfold Tr; rw [hA 21 (by decide) (by decide)]
  have eU : Ur um' r = Ur um r := by unfold Ur; rw [hA 23 (by decide) (by decide)]
  have eD : Dr um' r = Dr um r := by unfold Dr; rw [hA 24 (by decide) (by decide)]
  have eC : Cr um' r = Cr um r := by unfold Cr; rw [hA 19 (by decide) (by decide)]
  have eR : ∀ t, rpm um' r t = rpm um r t := fun t => by
    unfold rpm
    rw [eP, eL, en]
  obtain ⟨h1, h2, h3, h4, h5, ⟨h6, h7, h8, h9⟩, N, h10⟩ := h
  have h10' : RunS u' o (Tr um r) N (fun t => (rpm um r t).1) (fun t => (rpm um r t).2) := by
    obtain ⟨b1, b2, b3, b4, b5⟩ := h10
    refine ⟨(hf _ (by omega) (by omega) (by omega)).trans b1, b2, fun t ht => SI_c (b3 t ht) (fun s _ => by rw [ha (o + 30) (by omega) (by omega)]) (by rw [ha (o + 31) (by omega) (by omega)]) (by rw [ha (o + 32) (by omega) (by omega)]) (by rw [ha (o + 33) (by omega) (by omega)]) (fun _ _ => rfl), PI_c b4 (hf _ (by omega) (by omega) (by omega)) (fun j j1 j2 => ha j (by omega) (by omega)) (ha _ (by omega) (by omega)), fun t ht => ?_⟩
    rw [ha (o + 13) (by omega) (by omega)]
    exact ⟨PRow_c (b5 t ht).1 (fun j j1 j2 => ha j (by omega) (by omega)), (b5 t ht).2⟩
  unfold RR CG HB
  rw [eP, eL, eH, en, eT, eU, eD, eC, eR, hA 16 (by decide) (by decide), hA 17 (by decide) (by decide), hA 18 (by decide) (by decide), hA 26 (by decide) (by decide), hA 27 (by decide) (by decide)]
  refine ⟨fun k hk => ?_, ⟨(hf _ (by omega) (by omega) (by omega)).trans h2.1, fun k hk => ?_⟩, ⟨(hf _ (by omega) (by omega) (by omega)).trans h3.1, fun k hk => ?_⟩, HI_c h4 (hf _ (by omega) (by omega) (by omega)) (hf _ (by omega) (by omega) (by omega)) (hf _ (by omega) (by omega) (by omega)) (ha _ (by omega) (by omega)), ⟨h5.1, RX_m (RX_f h5.2 (fun j j1 j2 => ha j (by omega) (by omega)) (hf _ (by omega) (by omega) (by omega))) eP eL eR eT⟩, ⟨(hf _ (by omega) (by omega) (by omega)).trans h6, (hf _ (by omega) (by omega) (by omega)).trans h7, fun w => w.elim, (hf _ (by omega) (by omega) (by omega)).trans h9⟩, N, RunS_c h10' (fun t _ => by rw [eR]) (fun t _ => by rw [eR])⟩
  · rw [ha (o + 2) (by omega) (by omega), ha (o + 3) (by omega) (by omega), ha (o + 4) (by omega) (by omega), ha (o + 5) (by omega) (by omega)]; exact h1 k hk
  · rw [ha (o + 7) (by omega) (by omega), ha (o + 8) (by omega) (by omega), ha (o + 9) (by omega) (by omega), ha (o + 10) (by omega) (by omega), ha (o + 11) (by omega) (by omega)]; exact h2.2 k hk
  · rw [ha (o + 25) (by omega) (by omega), ha (o + 26) (by omega) (by omega), ha (o + 27) (by omega) (by omega)]; exact h3.2 k hk
theorem Rel_any (h : RelC False uc um) (hm : ∀ K W, okM um K W → okM um' K W) (hr : RF um um') (hw : wyX uc uc') : RelC False uc' um' := by
  obtain ⟨K, W, r1, r2, r3, r4, ⟨s1, s2, s3, s4, s5⟩, r6, r7, r8, r9⟩ := h
  have hK := r1.1.1.2.1
  have cf : ∀ k, (k < 13 ∨ (600 ≤ k ∧ k ≤ 603)) → uc'.1 k = uc.1 k := fun k hk => hw.2.2.2 k (by omega) (by omega) (by omega)
  have e5 := hr.1 5 (by omega) (by omega)
  refine ⟨K, W, hm K W r1, ⟨hw.1, wx_G r2.2 (wy_k hw)⟩, OutR_c r3 (cf _ (by omega)) (cf _ (by omega)) (cf _ (by omega)) (hw.2.2.1 7 (by omega)) (hr.1 29 (by omega) (by omega)) (hr.2 34 (by omega)), WR_c r4 (cf _ (by omega)) (cf _ (by omega)) (hr.1 30 (by omega) (by omega)), ⟨(cf _ (by omega)).trans s1, (cf _ (by omega)).trans (s2.trans (hr.2 _ (by omega)).symm), (cf _ (by omega)).trans (s3.trans (hr.2 _ (by omega)).symm), (cf _ (by omega)).trans (s4.trans (hr.2 _ (by omega)).symm), fun w => w.elim⟩, ?_, fun z k hz hk => ?_, fun h1 => ?_, fun r hr' => ⟨?_, ?_⟩⟩
  · rw [e5, show rG uc' 0 7 = rG uc 0 7 by unfold rG; rw [hw.2.1]]
    exact r6
  · rw [hw.2.2.1 _ (by omega), hr.1 _ (by omega) (by omega)]
    exact r7 z k hz hk
  · rw [e5] at h1
    exact RR_any (r8 h1) (fun j j1 _ => hw.2.2.1 j (by omega)) (fun k k1 k2 k3 => hw.2.2.2 k (by omega) (by omega) (by omega)) hr.1
  · exact RR_any (r9 r hr').1 (fun j j1 _ => hw.2.2.1 j (by omega)) (fun k k1 k2 k3 => hw.2.2.2 k (by omega) (by omega) (by omega)) hr.1
  · rw [hr.1 22 (by omega) (by omega)]
    exact (hw.2.2.2 _ (by omega) (by omega) (by omega)).trans (r9 r hr').2
/-- both return, and what holds of both (but for counts) holds behind it -/
def SW (gc gm : rg_U → Option (Int32 × rg_U)) : Prop := ∀ uc um, RelC False uc um → ∃ zc zm, gc uc = some zc ∧ gm um = some zm ∧ RelC False zc.2 zm.2
/-- the reference's side of a call that only reads -/
def MR (gm : rg_U → Option (Int32 × rg_U)) : Prop := ∀ u K W, okM u K W → ∃ z, gm u = some z ∧ okM z.2 K W ∧ RF u z.2
theorem okM_u {K2 W2 : Nat} (h : okM um K W) (h' : okM um' K W) (hr : RF um um') (h2 : okM um K2 W2) : okM um' K2 W2 := by
  have eK : K2 = K := nI_inj (by have := h2.1.1.2.1; omega) (by have := h.1.1.2.1; omega) (h2.1.1.1.symm.trans h.1.1.1)
  have eW : W2 = W := nI_inj (by have := h2.1.2.2.2.2.2.2.1.2.1; omega) (by have := h.1.2.2.2.2.2.2.1.2.1; omega) (h2.1.2.2.2.2.2.2.1.1.symm.trans h.1.2.2.2.2.2.2.1.1)
  subst eK eW
  exact h'
theorem sw_i {gc gm : rg_U → Option (Int32 × rg_U)} (hc : ∀ u, wkB u → wkG u → Tt (gc u) (fun z => wyX u z.2)) (hm : MR gm) : SW gc gm := fun uc um h => by
  obtain ⟨K, W, r1, r2, -⟩ := id h
  obtain ⟨zc, e1, h1⟩ := hc uc r2.1 r2.2
  obtain ⟨zm, e2, h2, h3⟩ := hm um K W r1
  exact ⟨zc, zm, e1, e2, Rel_any h (fun K2 W2 w => okM_u r1 h2 h3 w) h3 h1⟩
theorem sw_l {gc : rg_U → Option Int32} {gm : rg_U → Option (Int32 × rg_U)} (hc : ∀ u, wkB u → wkG u → Tt (gc u) (fun _ => True)) (hm : MR gm) : SW (lf1 gc) gm := sw_i (fun u h1 h2 => by
  obtain ⟨r, e, -⟩ := hc u h1 h2
  exact ⟨(r, u), by unfold lf1; rw [e, ob_i], wy_r h1⟩) hm
theorem mr_lf {g : rg_U → Option Int32} (h : ∀ u K W, okM u K W → ∃ r, g u = some r) : MR (lf1 g) := fun u K W hu => by
  obtain ⟨r, e⟩ := h u K W hu
  exact ⟨(r, u), by unfold lf1; rw [e, ob_i], hu, RF_r⟩
theorem mr_at (hF : 10000 < F) : MR (g_X10_at F x y z) := fun u K W h => by
  rcases m_at (F := F) (x := x) (y := y) (z := z) h hF with ⟨-, q, w⟩ | ⟨t, p, u', -, -, -, -, -, -, -, q, w, ce⟩
  · exact ⟨_, q, w, RF_35⟩
  · exact ⟨_, q, w, RF_t (RF_t RF_35 RF_cS) (RF_e ce)⟩
theorem mr_state (hF : 10000 < F) : MR (g_X10_state F x y) := fun u K W h => by
  rcases m_state (F := F) (x := x) (y := y) h hF with ⟨-, q, w⟩ | ⟨t, u', -, -, -, -, -, q, w, ce⟩
  · exact ⟨_, q, w, RF_35⟩
  · exact ⟨_, q, w, RF_t (RF_t RF_35 RF_cS) (RF_e ce)⟩
theorem mr_last (hF : 10000 < F) : MR (g_X10_last F x y) := fun u K W h => by
  rcases m_last (F := F) (x := x) (y := y) h hF with ⟨-, q, w⟩ | ⟨t, p, u', -, -, -, -, -, -, q, w, ce⟩
  · exact ⟨_, q, w, RF_35⟩
  · exact ⟨_, q, w, RF_t (RF_t RF_35 RF_cS) (RF_e ce)⟩
theorem mr_when (hF : 10000 < F) : MR (g_X10_when F x y s n) := fun u K W h => by
  rcases m_when (F := F) (x := x) (y := y) (s := s) (n := n) h hF with ⟨-, q, w⟩ | ⟨t, p, u', -, -, -, -, -, -, -, q, w, ce⟩
  · exact ⟨_, q, w, RF_35⟩
  · exact ⟨_, q, w, RF_t (RF_t RF_35 RF_cS) (RF_e ce)⟩
theorem mr_changed (hF : 10000 < F) : MR (g_X10_changed F x y) := fun u K W h => by
  rcases m_changed (F := F) (x := x) (y := y) h hF with ⟨-, q, w⟩ | ⟨t, u', -, -, -, -, -, q, w, ce⟩
  · exact ⟨_, q, w, RF_35⟩
  · exact ⟨_, q, w, RF_t (RF_t RF_35 RF_cS) (RF_e ce)⟩
theorem mr_watched (hF : 10000 < F) : MR (g_X10_watched F x) := fun u K W h => by
  rcases m_watched (F := F) (x := x) h hF with ⟨-, q, w⟩ | ⟨t, u', -, -, -, -, -, q, w, ce⟩
  · exact ⟨_, q, w, RF_35⟩
  · exact ⟨_, q, w, RF_t (RF_t RF_35 RF_cS) (RF_e ce)⟩
theorem mr_rests (hF : 10000 < F) : MR (g_X10_rests F x y z) := fun u K W h => by
  rcases m_rests (F := F) (x := x) (y := y) (z := z) h hF with ⟨-, q⟩ | ⟨t, p, u', -, -, -, -, -, -, q, w, ce⟩
  · exact ⟨_, q, h, RF_r⟩
  · exact ⟨_, q, w, RF_e ce⟩
theorem mr_hangs (hF : 10000 < F) : MR (g_X10_hangs F x y z) := fun u K W h => by
  rcases m_hangs (F := F) (x := x) (y := y) (z := z) h hF with ⟨q, -⟩ | ⟨t, e, u', -, -, -, -, -, -, -, q, w, ce⟩
  · exact ⟨_, q, h, RF_r⟩
  · exact ⟨_, q, w, RF_e ce⟩
theorem mr_history (hF : 10000 < F) : MR (g_X10_history F x y z) := fun u K W h => by
  rcases m_history (F := F) (x := x) (y := y) (z := z) h hF with ⟨-, q⟩ | ⟨p, u', -, -, -, -, -, q, w, ce⟩
  · exact ⟨_, q, h, RF_r⟩
  · exact ⟨_, q, w, RF_e ce⟩
theorem mr_done (hF : 10000 < F) : MR (g_X10_done F x y) := fun u K W h => by
  rcases m_done (F := F) (x := x) (y := y) h hF with ⟨-, q⟩ | ⟨t, u', -, -, -, -, -, q, w, ce⟩
  · exact ⟨_, q, h, RF_r⟩
  · exact ⟨_, q, w, RF_e ce⟩
theorem mr_align (hF : 10000 < F) : MR (g_X10_align F x y) := fun u K W h => by
  rcases m_align (F := F) (x := x) (y := y) h hF with ⟨-, q⟩ | ⟨r1, r2, w, -, -, -, -, q, ce, ok⟩
  · exact ⟨_, q, h, RF_r⟩
  · exact ⟨_, q, ok, RF_e ce⟩
theorem mr_parts (hF : 10000 < F) : MR (g_X10_parts F x y) := fun u K W h => by
  rcases m_parts (F := F) (x := x) (y := y) h hF with ⟨-, q⟩ | ⟨r1, r2, a, w, -, -, -, -, q, -, ce, ok⟩
  · exact ⟨_, q, h, RF_r⟩
  · exact ⟨_, q, ok, RF_e ce⟩
theorem mr_pair (hF : 10000 < F) : MR (g_X10_pair F x y z q) := fun u K W h => by
  rcases m_pair (F := F) (x := x) (y := y) (z := z) (q := q) h hF with ⟨w, e, ok, ce, -⟩ | ⟨r1, r2, k, a, b, w, -, -, -, -, -, -, -, -, e, ok, c1, c2⟩
  · exact ⟨_, e, ok, RF_t RF_35 (RF_e ce)⟩
  · refine ⟨_, e, ok, ?_⟩
    by_cases w2 : 2 ≤ q
    · exact RF_t (RF_t RF_35 (RF_t RF_cS RF_cS)) (RF_e (c2 w2))
    · exact RF_t RF_35 (RF_e (c1 w2))
end YG
theorem wtB_z {u : rg_U} {a : Nat} (h : ∀ i, u.2.1 30 i = 0) : ∀ n, wtB u a n = 0
  | 0 => rfl
  | n + 1 => by
    unfold wtB
    rw [wtB_z h n, h, if_pos rfl]
    rfl
theorem Rel_start : RelC True uL_RunsBack uL_RunsBackModel := by
  have hc := frC_0
  have hm := frM_0
  have f : ∀ s, uL_RunsBackModel.1 s = (mu_none 0).1 s := fun s => by
    show (mu_none 64).1 _ = _
    rw [mu_none_1 64]
  have a : ∀ j i, uL_RunsBackModel.2.1 j i = if j = 1 ∧ i < 64 then -1 else (mu_none 0).2.1 j i := mu_none_a 64 (by decide)
  obtain ⟨K, W, ok⟩ := okA_start
  have eK : K = 0 := nI_inj (b := 0) (by have := ok.1.1.2.1; omega) (by omega) (ok.1.1.1.symm.trans hm.2.1)
  have eW : W = 0 := nI_inj (b := 0) (by have := ok.1.2.2.2.2.2.2.1.2.1; omega) (by omega) (ok.1.2.2.2.2.2.2.1.1.symm.trans hm.2.2.2.1)
  subst eK eW
  have e5 : uL_RunsBackModel.2.1 5 4 = 0 := by
    rw [a, if_neg (by omega)]
    rfl
  have h30 : ∀ i, uL_RunsBackModel.2.1 30 i = 0 := hm.2.2.2.2.2.2.1
  refine ⟨0, 0, ok, okX_start, ⟨0, ⟨rfl, hc.2.2.2.2.2.2.1, by omega, by omega⟩, fun i hi => by omega, hc.2.2.2.2.2.2.2.1.trans hm.2.2.2.2.1.symm⟩, ⟨hc.2.2.2.1.trans (wtB_z h30 8).symm, hc.2.2.2.2.1.trans (wtB_z h30 32).symm⟩, ⟨hc.2.2.1, hc.2.1.trans hm.2.2.1.symm, by rw [f]; rfl, by rw [f]; rfl, fun _ => hc.2.2.2.2.2.1.trans hm.2.2.2.2.2.1.symm⟩, ?_, fun z k hz hk => ?_, fun h1 => ?_, fun r hr => by omega⟩
  · rw [e5, hc.1]
    exact ⟨fun w => (by cases w), fun w => absurd w (by decide)⟩
  · rw [a]
    rcases (show z = 0 ∨ z = 1 ∨ z = 2 ∨ z = 3 by omega) with rfl | rfl | rfl | rfl
    · rw [if_pos ⟨rfl, hk⟩]
      exact hc.2.2.2.2.2.2.2.2.2 k hk
    · rw [if_neg (by omega)]
      rfl
    · rw [if_neg (by omega)]
      rfl
    · rw [if_neg (by omega)]
      rfl
  · rw [e5] at h1
    exact absurd h1 (by decide)
theorem Rel_F {uc um : rg_U} (h : RelC True uc um) : RelC False uc um := by
  have hRR : ∀ {o r}, RR True uc um o r → RR False uc um o r := fun {o r} w => by
    obtain ⟨h1, h2, h3, h4, h5, ⟨h6, h7, h8, h9⟩, N, h10⟩ := w
    exact ⟨h1, h2, h3, h4, h5, ⟨h6, h7, fun w => w.elim, h9⟩, N, h10⟩
  obtain ⟨K, W, r1, r2, r3, r4, ⟨s1, s2, s3, s4, s5⟩, r6, r7, r8, r9⟩ := h
  exact ⟨K, W, r1, r2, r3, r4, ⟨s1, s2, s3, s4, fun w => w.elim⟩, r6, r7, fun h1 => hRR (r8 h1), fun r hr => ⟨hRR (r9 r hr).1, (r9 r hr).2⟩⟩
