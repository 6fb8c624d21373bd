/-! the class and the reference: align -/
/-- nothing but the rows and the pairs of what lies beside is other -/
def lyX (u0 u : rg_U) : Prop := u.2.2 = u0.2.2 ∧ (∀ j, (j < 10 ∨ 115 ≤ j) → u.2.1 j = u0.2.1 j) ∧ ∀ k, k ≠ 803 → u.1 k = u0.1 k
section YK
variable {pB : Prop} {F K W o o1 o2 r r1 r2 C D i j : Nat} {u uc um uc' um' v w : rg_U} {x y z : Int32}
theorem ly_r : lyX u u := ⟨rfl, fun _ _ => rfl, fun _ _ => rfl⟩
theorem ly_R {k : Nat} (h : lyX u v) (hj : 10 ≤ j ∧ j < 115) : lyX u (rg_R v j k x) := ⟨h.1, fun j' hj' => (R_n (by omega)).trans (h.2.1 j' hj'), h.2.2⟩
theorem ly_F (h : lyX u v) : lyX u (sF v 8 3 x) := ⟨h.1, h.2.1, fun k hk => (sF_n hk).trans (h.2.2 k hk)⟩
theorem ly_B (h : lyX u v) (hX : okX u) : okX v := by
  refine ⟨fun p hp => ?_, ?_⟩
  · have hn : wkN 803 := by decide
    rw [h.2.2 _ (hn p hp)]
    exact hX.1 p hp
  · unfold wkG
    rw [h.1]
    exact hX.2
theorem Rel_ly (h : RelC pB uc um) (hl : lyX uc uc') : RelC pB uc' um := by
  obtain ⟨K, W, r1, r2, r3, r4, ⟨s1, s2, s3, s4, s5⟩, r6, r7, r8, r9⟩ := h
  have hK := r1.1.1.2.1
  have cf : ∀ k, k ≠ 803 → uc'.1 k = uc.1 k := hl.2.2
  refine ⟨K, W, r1, ly_B hl r2, OutR_c r3 (cf _ (by omega)) (cf _ (by omega)) (cf _ (by omega)) (hl.2.1 7 (by omega)) rfl rfl, WR_c r4 (cf _ (by omega)) (cf _ (by omega)) rfl, ⟨(cf _ (by omega)).trans s1, (cf _ (by omega)).trans s2, (cf _ (by omega)).trans s3, (cf _ (by omega)).trans s4, fun hb => (cf _ (by omega)).trans (s5 hb)⟩, ?_, fun z k hz hk => ?_, fun h1 => ?_, fun q hq => ⟨?_, ?_⟩⟩
  · rw [show rG uc' 0 7 = rG uc 0 7 by unfold rG; rw [hl.1]]
    exact r6
  · rw [hl.2.1 _ (by omega)]
    exact r7 z k hz hk
  · exact RR_f (r8 h1) (fun j j1 _ => hl.2.1 j (by omega)) (fun k k1 k2 => cf k (by omega))
  · exact RR_f (r9 q hq).1 (fun j j1 _ => hl.2.1 j (by omega)) (fun k k1 k2 => cf k (by omega))
  · exact (cf _ (by omega)).trans (r9 q hq).2
theorem c_rowQ (hG : wkG uc) (h : lyX uc u) (hi : i < 101) : rQ u 9 (nI i) = some (10 + i) := by
  unfold rQ
  rw [h.1, nI_clamp (by omega)]
  exact hG.2.2 i hi
theorem rw_i (hi : i < 101) : isRw (10 + i) := ⟨by omega, by omega⟩
theorem c_isLike (hu : lyX uc u) (h1 : CG uc um o1 r1) (h2 : CG uc um o2 r2) (ho1 : 116 ≤ o1) (ho2 : 116 ≤ o2) (hC : Cr um r1 ≤ 100) (hD : Cr um r2 ≤ 100) (hi : i < Cr um r1) (hj : j < Cr um r2) : g_X1_isLike F (o1 + 24) (nI i) (o2 + 24) (nI j) u = some (if E35 um r1 r2 i j then 1 else 0) := by
  have a1 : ∀ (o r : Nat) (k : Nat), 116 ≤ o → CG uc um o r → Cr um r ≤ 100 → k < Cr um r → g_X1_has F (o + 24) (nI k) u = some 1 := fun o r k ho h hc hk => by
    have e3 : rF u (o + 24) 3 = nI (Cr um r) := (hu.2.2 _ (by omega)).trans h.1
    unfold g_X1_has
    rw [if_neg (nI_pos (by omega)), e3, if_neg (nI_ge hk (by omega)), if_neg (show ¬ (100 : Int32) ≤ nI k from nI_ge (a := k) (b := 100) (by omega) (by decide))]
  have e26 : ∀ (o r k : Nat), 116 ≤ o → CG uc um o r → k < Cr um r → u.2.1 (o + 24 + 2) k = um.2.1 17 (100 * r + k) ∧ u.2.1 (o + 24 + 3) k = um.2.1 18 (100 * r + k) := fun o r k ho h hk => by
    rw [hu.2.1 _ (by omega), hu.2.1 _ (by omega)]
    exact ⟨(h.2 k hk).2.1, (h.2 k hk).2.2⟩
  unfold g_X1_isLike E35
  rw [a1 o1 r1 i ho1 h1 hC hi, ob_i, if_neg one_n0, a1 o2 r2 j ho2 h2 hD hj, ob_i, if_neg one_n0, ck_t (inb_nI (by omega) (by decide)), ck_t (inb_nI (by omega) (by decide)), ck_t (inb_nI (by omega) (by decide)), ck_t (inb_nI (by omega) (by decide)), rA_nI (by omega), rA_nI (by omega), rA_nI (by omega), rA_nI (by omega), (e26 o1 r1 i ho1 h1 hi).1, (e26 o1 r1 i ho1 h1 hi).2, (e26 o2 r2 j ho2 h2 hj).1, (e26 o2 r2 j ho2 h2 hj).2]
  by_cases q : um.2.1 17 (100 * r1 + i) = um.2.1 17 (100 * r2 + j)
  · rw [if_pos q]
    by_cases z : um.2.1 18 (100 * r1 + i) = um.2.1 18 (100 * r2 + j)
    · rw [if_pos z, if_pos (by simp [q, z])]
    · rw [if_neg z, if_neg (by simp [z])]
  · rw [if_neg q, if_neg (by simp [q])]
/-- the rows of the table from row i on, row i from m on -/
def rT (v : rg_U) (L : Nat → Nat → Nat) (C D i m : Nat) : Prop := (∀ i' j', i < i' → i' ≤ C → j' ≤ D → v.2.1 (10 + i') j' = nI (L i' j')) ∧ ∀ j', m ≤ j' → j' ≤ D → v.2.1 (10 + i) j' = nI (L i j')
/-- that the class's like calls are E -/
def LK (uc : rg_U) (o1 o2 C D F : Nat) (E : Nat → Nat → Bool) : Prop := C ≤ 100 ∧ D ≤ 100 ∧ wkG uc ∧ ∀ u i j, lyX uc u → i < C → j < D → g_X1_isLike F (o1 + 24) (nI i) (o2 + 24) (nI j) u = some (if E i j then 1 else 0)
theorem c_cell {E : Nat → Nat → Bool} (hk : LK uc o1 o2 C D F E) (hv : lyX uc v) (hi : i < C) (hj : j < D) (hT : rT v (lL E C D) C D i (j + 1)) : ∃ w, g_X0_countPairs_l37 F (o1 + 24) (o2 + 24) (nI D) (nI i) (nI j) v = some (.inl (nI j + (-1), w)) ∧ lyX uc w ∧ rT w (lL E C D) C D i j := by
  obtain ⟨hC, hD, hG, hE⟩ := hk
  have hl : ∀ a b, lL E C D a b ≤ 100 := fun a b => Nat.le_trans lL_le hC
  have q1 := c_rowQ hG hv (show i + 1 < 101 by omega)
  have q0 := c_rowQ hG hv (show i < 101 by omega)
  have w1 := rw_i (show i + 1 < 101 by omega)
  have w0 := rw_i (show i < 101 by omega)
  have b1 : inb (nI (i + 1)) 101 := inb_nI (by omega) (by decide)
  have b0 : inb (nI i) 101 := inb_nI (by omega) (by decide)
  have d1 : inb (nI (j + 1)) 101 := inb_nI (by omega) (by decide)
  have d0 : inb (nI j) 101 := inb_nI (by omega) (by decide)
  have fin : g_X0_countPairs_l37 F (o1 + 24) (o2 + 24) (nI D) (nI i) (nI j) v = some (.inl (nI j + (-1), rg_R v (10 + i) j (nI (lL E C D i j)))) := by
    have e103 : ∀ a b : Nat, a ≤ 200 → b ≤ 200 → max a b = lL E C D i j → g_X0_countPairs_j103 F (o1 + 24) (o2 + 24) (nI D) (nI i) (nI j) (nI a) (nI b) v = some (.inl (nI j + (-1), rg_R v (10 + i) j (nI (lL E C D i j)))) := fun a b ha hb e => by
      unfold g_X0_countPairs_j103
      rw [ck_t b0, q0, om_i, ck_t w0, ck_t d0, lt1_i, imax_nI (by omega) (by omega), e, sA_nI (by omega)]
    unfold g_X0_countPairs_l37
    rw [if_neg (nI_pos (by omega)), nI_1, nI_1, ck_t b1, q1, om_i, ck_t w1, ck_t d0, ck_t b0, q0, om_i, ck_t w0, ck_t d1, hE v i j hv hi hj, ob_i, rA_nI (by omega), rA_nI (by omega), hT.1 (i + 1) j (by omega) (by omega) (by omega), hT.2 (j + 1) (Nat.le_refl _) (by omega), imax_nI (by have := hl (i + 1) j; omega) (by have := hl i (j + 1); omega)]
    have hs := lL_s (E := E) hi hj
    have l1 := hl (i + 1) j
    have l2 := hl i (j + 1)
    have l3 := hl (i + 1) (j + 1)
    by_cases z : E i j = true
    · rw [if_pos z] at hs
      rw [if_pos z, if_neg one_n0, ck_t b1, om_i, ck_t w1, ck_t d1, rA_nI (by omega), hT.1 (i + 1) (j + 1) (by omega) (by omega) (by omega), show (1 : Int32) + nI (lL E C D (i + 1) (j + 1)) = nI (1 + lL E C D (i + 1) (j + 1)) from nI_add 1 _]
      exact e103 _ _ (by omega) (by omega) hs.symm
    · rw [if_neg z] at hs
      rw [if_neg z, if_pos rfl]
      exact e103 _ 0 (by omega) (by omega) hs.symm
  refine ⟨_, fin, ly_R hv (by omega), fun i' j' a1 a2 a3 => ?_, fun j' a1 a2 => ?_⟩
  · rw [R_at, if_neg (by omega)]
    exact hT.1 i' j' a1 a2 a3
  · rw [R_at]
    by_cases z : j' = j
    · rw [if_pos ⟨rfl, z⟩, z]
    · rw [if_neg (by omega)]
      exact hT.2 j' (by omega) a2
theorem c_rowl {E : Nat → Nat → Bool} (hk : LK uc o1 o2 C D F E) (hi : i < C) : ∀ (m : Nat) (v : rg_U), m ≤ D → lyX uc v → rT v (lL E C D) C D i m → ∀ G, m < G → ∃ w, lp (fun (s : Int32 × rg_U) => g_X0_countPairs_l37 F (o1 + 24) (o2 + 24) (nI D) (nI i) s.1 s.2) G (nI m + (-1), v) = some w ∧ lyX uc w ∧ rT w (lL E C D) C D i 0
  | m, v, hm, hv, hT, 0, hG => by omega
  | 0, v, hm, hv, hT, G + 1, hG => by
    refine ⟨v, lp_r ?_, hv, hT⟩
    unfold g_X0_countPairs_l37
    dsimp only
    rw [if_pos (by decide)]
  | m + 1, v, hm, hv, hT, G + 1, hG => by
    obtain ⟨w, g1, g2, g3⟩ := c_cell (j := m) hk hv hi (by omega) hT
    rw [nI_dec, lp_l (body := fun (s : Int32 × rg_U) => g_X0_countPairs_l37 F (o1 + 24) (o2 + 24) (nI D) (nI i) s.1 s.2) (s := (nI m, v)) g1]
    exact c_rowl hk hi m w (by omega) g2 g3 G (by omega)
theorem c_rowsl {E : Nat → Nat → Bool} (hk : LK uc o1 o2 C D F E) (hF : 10000 < F) : ∀ (m : Nat) (v : rg_U), m ≤ C → lyX uc v → (∀ i' j', m ≤ i' → i' ≤ C → j' ≤ D → v.2.1 (10 + i') j' = nI (lL E C D i' j')) → ∀ G, m < G → ∃ w, lp (fun (s : Int32 × rg_U) => g_X0_countPairs_l15 F (o1 + 24) (o2 + 24) (nI D) s.1 s.2) G (nI m + (-1), v) = some w ∧ lyX uc w ∧ ∀ i' j', i' ≤ C → j' ≤ D → w.2.1 (10 + i') j' = nI (lL E C D i' j')
  | m, v, hm, hv, hT, 0, hG => by omega
  | 0, v, hm, hv, hT, G + 1, hG => by
    refine ⟨v, lp_r ?_, hv, fun i' j' => hT i' j' (Nat.zero_le _)⟩
    unfold g_X0_countPairs_l15
    dsimp only
    rw [if_pos (by decide)]
  | m + 1, v, hm, hv, hT, G + 1, hG => by
    obtain ⟨hC, hD, hG', hE⟩ := id hk
    have hv1 : lyX uc (rg_R v (10 + m) D 0) := ly_R hv (by omega)
    obtain ⟨w, g1, g2, g3⟩ := c_rowl (i := m) hk (by omega) D (rg_R v (10 + m) D 0) (Nat.le_refl _) hv1 ⟨fun i' j' a1 a2 a3 => by rw [R_at, if_neg (by omega)]; exact hT i' j' a1 a2 a3, fun j' a1 a2 => by rw [R_at, if_pos ⟨rfl, by omega⟩, show j' = D by omega, lL_D (Nat.le_refl _)]; rfl⟩ F (by omega)
    have hb : g_X0_countPairs_l15 F (o1 + 24) (o2 + 24) (nI D) (nI m) v = some (.inl (nI m + (-1), w)) := by
      unfold g_X0_countPairs_l15
      rw [if_neg (nI_pos (by omega)), ck_t (inb_nI (by omega) (by decide)), c_rowQ hG' hv (by omega), om_i, ck_t (rw_i (by omega)), ck_t (inb_nI (by omega) (by decide)), lt1_i, sA_nI (by omega), show nI D - 1 = nI D + (-1) from Int32.sub_eq_add_neg _ _, g1, ob_i]
    rw [nI_dec, lp_l (body := fun (s : Int32 × rg_U) => g_X0_countPairs_l15 F (o1 + 24) (o2 + 24) (nI D) s.1 s.2) (s := (nI m, v)) hb]
    refine c_rowsl hk hF m w (by omega) g2 (fun i' j' a1 a2 a3 => ?_) G (by omega)
    by_cases z : i' = m
    · rw [z]; exact g3.2 j' (Nat.zero_le _) a3
    · exact g3.1 i' j' (by omega) a2 a3
theorem c_countPairs {E : Nat → Nat → Bool} (hk : LK uc o1 o2 C D F E) (hF : 10000 < F) : ∃ w, g_X0_countPairs F (o1 + 24) (nI C) (o2 + 24) (nI D) uc = some w ∧ lyX uc w ∧ ∀ i' j', i' ≤ C → j' ≤ D → w.2.1 (10 + i') j' = nI (lL E C D i' j') := by
  obtain ⟨hC, hD, hG', hE⟩ := id hk
  have hv : lyX uc (sFill uc (10 + C) 101 0) := ⟨rfl, fun j hj => pm_up_n (by omega), fun _ _ => rfl⟩
  obtain ⟨w, g1, g2⟩ := c_rowsl hk hF C (sFill uc (10 + C) 101 0) (Nat.le_refl _) hv (fun i' j' a1 a2 a3 => by
    rw [show i' = C by omega, lL_C (Nat.le_refl _)]
    show va_up uc.2.1 (10 + C) (fun i => if i < 101 then 0 else uc.2.1 (10 + C) i) (10 + C) j' = _
    unfold va_up
    rw [if_pos rfl]
    exact if_pos (by omega)) F (by omega)
  refine ⟨w, ?_, g2⟩
  unfold g_X0_countPairs
  rw [ck_t (inb_nI (by omega) (by decide)), c_rowQ hG' ly_r (by omega), om_i, ck_t (rw_i (by omega)), g_fill_eq (by decide) (by omega), ob_i, show nI C - 1 = nI C + (-1) from Int32.sub_eq_add_neg _ _, g1, ob_i]
/-! the pairs -/
theorem lL_m1 {E : Nat → Nat → Bool} : lL E C D (i + 1) j ≤ lL E C D i j := by
  rcases Nat.lt_or_ge i C with h1 | h1
  · rcases Nat.lt_or_ge j D with h2 | h2
    · have := lL_s (E := E) h1 h2
      omega
    · rw [lL_D h2]; omega
  · rw [lL_C (show C ≤ i + 1 by omega)]; omega
theorem lL_m2 {E : Nat → Nat → Bool} : lL E C D i (j + 1) ≤ lL E C D i j := by
  rcases Nat.lt_or_ge i C with h1 | h1
  · rcases Nat.lt_or_ge j D with h2 | h2
    · have := lL_s (E := E) h1 h2
      omega
    · rw [lL_D (show D ≤ j + 1 by omega)]; omega
  · rw [lL_C h1]; omega
theorem lL_mi {E : Nat → Nat → Bool} : ∀ a, lL E C D (i + a) j ≤ lL E C D i j
  | 0 => Nat.le_refl _
  | a + 1 => Nat.le_trans (lL_m1 (i := i + a)) (lL_mi a)
theorem lL_mj {E : Nat → Nat → Bool} : ∀ b, lL E C D i (j + b) ≤ lL E C D i j
  | 0 => Nat.le_refl _
  | b + 1 => Nat.le_trans (lL_m2 (j := j + b)) (lL_mj b)
theorem lL_hit {E : Nat → Nat → Bool} {a b : Nat} (h1 : i ≤ a) (h2 : j ≤ b) (ha : a < C) (hb : b < D) (hE : E a b = true) : 1 + lL E C D (a + 1) (b + 1) ≤ lL E C D i j := by
  have hs := lL_s (E := E) ha hb
  rw [if_pos hE] at hs
  have m1 := lL_mi (E := E) (C := C) (D := D) (i := i) (j := j) (a - i)
  have m2 := lL_mj (E := E) (C := C) (D := D) (i := a) (j := j) (b - j)
  rw [show i + (a - i) = a by omega] at m1
  rw [show j + (b - j) = b by omega] at m2
  omega
theorem lL_no {E : Nat → Nat → Bool} (hi : i < C) (h : ∀ b, j ≤ b → b < D → ¬ hit E C D (lL E C D i j) i b) : lL E C D (i + 1) j = lL E C D i j := by
  have m := lL_m1 (E := E) (C := C) (D := D) (i := i) (j := j)
  rcases Nat.eq_zero_or_pos (lL E C D i j) with z | z
  · omega
  · obtain ⟨a, b, y1, y2, y3, y4, y5, y6⟩ := lL_ex (E := E) (C := C) (D := D) _ i j (Nat.le_refl _) z
    by_cases w : a = i
    · subst w
      exact absurd ⟨y5, y6⟩ (h b y3 y4)
    · have := lL_hit (E := E) (C := C) (D := D) (i := i + 1) (j := j) (by omega) y3 y2 y4 y5
      omega
/-- a row is looked through from column j on -/
theorem c_scan {E : Nat → Nat → Bool} {j0 : Nat} (hk : LK uc o1 o2 C D F E) (hv : lyX uc v) (hT : ∀ i' j', i' ≤ C → j' ≤ D → v.2.1 (10 + i') j' = nI (lL E C D i' j')) (hi : i < C) (hj0 : j0 ≤ D) : ∀ (f j : Nat), D - j ≤ f → j0 ≤ j → j ≤ D → ∀ G, f < G → ∃ b, lp (fun (s : Int32) => g_X0_choosePairs_l30 F (o1 + 24) (o2 + 24) (nI C) (nI D) (nI j0) (nI i) v s) G (nI j) = some (nI b) ∧ j ≤ b ∧ b ≤ D ∧ (b < D → hit E C D (lL E C D i j0) i b) ∧ ∀ b', j ≤ b' → b' < b → ¬ hit E C D (lL E C D i j0) i b'
  | f, j, hf, h1, h2, 0, hG => by omega
  | f, j, hf, h1, h2, G + 1, hG => by
    obtain ⟨hC, hD, hG', hE⟩ := id hk
    have hl : ∀ a b, lL E C D a b ≤ 100 := fun a b => Nat.le_trans lL_le hC
    by_cases q : j < D
    · have hb : g_X0_choosePairs_l30 F (o1 + 24) (o2 + 24) (nI C) (nI D) (nI j0) (nI i) v (nI j) = if E i j = true ∧ 1 + lL E C D (i + 1) (j + 1) = lL E C D i j0 then some (.inr (nI j)) else some (.inl (nI (j + 1))) := by
        unfold g_X0_choosePairs_l30 g_X0_choosePairs_j78
        rw [if_neg (nI_ge q (by omega)), hE v i j hv hi q, ob_i, nI_1, nI_1]
        by_cases z : E i j = true
        · rw [if_pos z, if_neg one_n0, ck_t (inb_nI (by omega) (by decide)), c_rowQ hG' hv (by omega), om_i, ck_t (rw_i (by omega)), ck_t (inb_nI (by omega) (by decide)), ck_t (inb_nI (by omega) (by decide)), c_rowQ hG' hv (by omega), om_i, ck_t (rw_i (by omega)), ck_t (inb_nI (by omega) (by decide)), rA_nI (by omega), rA_nI (by omega), hT _ _ (by omega) (by omega), hT _ _ (by omega) hj0, show (1 : Int32) + nI (lL E C D (i + 1) (j + 1)) = nI (1 + lL E C D (i + 1) (j + 1)) from nI_add 1 _]
          by_cases y : 1 + lL E C D (i + 1) (j + 1) = lL E C D i j0
          · rw [if_pos (by rw [y]), if_pos ⟨z, y⟩]
          · rw [if_neg (fun w => y (nI_inj (by have := hl (i + 1) (j + 1); omega) (by have := hl i j0; omega) w)), if_neg (fun w => y w.2)]
        · rw [if_neg z, if_pos rfl, if_neg (fun w => z w.1)]
      by_cases z : E i j = true ∧ 1 + lL E C D (i + 1) (j + 1) = lL E C D i j0
      · rw [if_pos z] at hb
        exact ⟨j, lp_r hb, Nat.le_refl _, h2, fun _ => z, fun b' a1 a2 => by omega⟩
      · rw [if_neg z] at hb
        match f, hf, hG with
        | 0, hf, hG => omega
        | f + 1, hf, hG =>
        obtain ⟨b, g1, g2, g3, g4, g5⟩ := c_scan hk hv hT hi hj0 f (j + 1) (by omega) (by omega) (by omega) G (by omega)
        refine ⟨b, (lp_l (body := fun (s : Int32) => g_X0_choosePairs_l30 F (o1 + 24) (o2 + 24) (nI C) (nI D) (nI j0) (nI i) v s) (s := nI j) hb).trans g1, by omega, g3, g4, fun b' a1 a2 => ?_⟩
        by_cases w : b' = j
        · rw [w]; exact z
        · exact g5 b' (by omega) a2
    · have hb : g_X0_choosePairs_l30 F (o1 + 24) (o2 + 24) (nI C) (nI D) (nI j0) (nI i) v (nI j) = some (.inr (nI j)) := by
        unfold g_X0_choosePairs_l30
        rw [if_pos (nI_le (by omega) (by omega))]
      exact ⟨j, lp_r hb, Nat.le_refl _, h2, fun w => absurd w q, fun b' a1 a2 => by omega⟩
theorem sub_s1 {a b n : Nat} (h : a - b ≤ n + 1) : a - (b + 1) ≤ n := by omega
/-- what is chosen so far -/
def chS (v : rg_U) (E : Nat → Nat → Bool) (C D c : Nat) : Prop := rF v 8 3 = nI c ∧ ∀ k, k < c → ∃ a b, v.2.1 111 k = nI a ∧ v.2.1 112 k = nI b ∧ prR E C D k a b
theorem c_choose {E : Nat → Nat → Bool} (hk : LK uc o1 o2 C D F E) (hF : 10000 < F) : ∀ (f i0 i j c : Nat) (v : rg_U), C - i ≤ f → lyX uc v → (∀ i' j', i' ≤ C → j' ≤ D → v.2.1 (10 + i') j' = nI (lL E C D i' j')) → i0 ≤ i → i ≤ C → j ≤ D → lL E C D i j + c = lL E C D 0 0 → lL E C D i j = lL E C D i0 j → chS v E C D c → ((c = 0 ∧ i0 = 0 ∧ j = 0) ∨ ∃ a b c', c = c' + 1 ∧ prR E C D c' a b ∧ i0 = a + 1 ∧ j = b + 1) → (∀ a' b', i0 ≤ a' → a' < i → j ≤ b' → b' < D → ¬ hit E C D (lL E C D i0 j) a' b') → ∀ G, f < G → ∃ w, lp (fun (s : Int32 × Int32 × rg_U) => g_X0_choosePairs_l11 F (o1 + 24) (o2 + 24) (nI C) (nI D) s.1 s.2.1 s.2.2) G (nI j, nI i, v) = some w ∧ lyX uc w ∧ chS w E C D (lL E C D 0 0)
  | f, i0, i, j, c, v, hf, hv, hT, h0, h1, h2, h3, h4, h5, h6, h7, 0, hG => by omega
  | f, i0, i, j, c, v, hf, hv, hT, h0, h1, h2, h3, h4, h5, h6, h7, G + 1, hG => by
    obtain ⟨hC, hD, hG', hE⟩ := id hk
    have hN : lL E C D 0 0 ≤ 100 := Nat.le_trans lL_le hC
    by_cases q : i < C
    · by_cases q2 : c < 100
      · match f, hf, hG with
        | 0, hf, hG => omega
        | f + 1, hf, hG =>
        obtain ⟨b, g1, g2, g3, g4, g5⟩ := c_scan hk hv hT q h2 (D - j) j (Nat.le_refl _) (Nat.le_refl _) h2 F (by omega)
        have hb : g_X0_choosePairs_l11 F (o1 + 24) (o2 + 24) (nI C) (nI D) (nI j) (nI i) v = if b < D then some (.inl (nI (b + 1), nI (i + 1), sF (rg_R (rg_R v 111 c (nI i)) 112 c (nI b)) 8 3 (nI (c + 1)))) else some (.inl (nI j, nI (i + 1), v)) := by
          unfold g_X0_choosePairs_l11
          rw [if_neg (nI_ge q (by omega)), h5.1, if_neg (show ¬ (100 : Int32) ≤ nI c from nI_ge (a := c) (b := 100) q2 (by decide)), g1, ob_i]
          unfold g_X0_choosePairs_j84 g_X0_choosePairs_j129
          by_cases z : b < D
          · have e3 : rF (rg_R v 111 c (nI i)) 8 3 = nI c := h5.1
            have e4 : rF (rg_R (rg_R v 111 c (nI i)) 112 c (nI b)) 8 3 = nI c := h5.1
            rw [if_neg (nI_ge z (by omega)), if_pos z, h5.1, ck_t (inb_nI (by omega) (by decide)), lt1_i, sA_nI (by omega), e3, ck_t (inb_nI (by omega) (by decide)), lt1_i, sA_nI (by omega), lt1_i, e4, nI_1, nI_1, nI_1]
          · rw [if_pos (nI_le (by omega) (by omega)), if_neg z, nI_1]
        by_cases z : b < D
        · rw [if_pos z] at hb
          have hh := g4 z
          have hfp : fpR E C D i0 j i b := by
            refine ⟨h0, q, g2, z, by rw [← h4]; exact hh, fun a' b' a1 a2 a3 a4 => ?_⟩
            unfold lxl at a4
            rcases a4 with a4 | ⟨a4, a5⟩
            · exact h7 a' b' a1 a4 a2 a3
            · rw [a4, ← h4]; exact g5 b' a2 a5
          have hpr : prR E C D c i b := by
            rcases h6 with ⟨z1, z2, z3⟩ | ⟨a', b', c', z1, z2, z3, z4⟩
            · subst z1 z2 z3; exact hfp
            · subst z1 z3 z4; exact ⟨a', b', z2, hfp⟩
          obtain ⟨w, k1, k2, k3⟩ := c_choose hk hF f (i + 1) (i + 1) (b + 1) (c + 1) (sF (rg_R (rg_R v 111 c (nI i)) 112 c (nI b)) 8 3 (nI (c + 1))) (by omega) (ly_F (ly_R (ly_R hv (by omega)) (by omega))) (fun i' j' a1 a2 => by
            show (rg_R (rg_R v 111 c (nI i)) 112 c (nI b)).2.1 (10 + i') j' = _
            rw [R_at, if_neg (by omega), R_at, if_neg (by omega)]
            exact hT i' j' a1 a2) (Nat.le_refl _) (by omega) (by omega) (by have := hh.2; omega) rfl ⟨sF_y, fun k hk' => by
            show ∃ a b', (rg_R (rg_R v 111 c (nI i)) 112 c (nI b)).2.1 111 k = nI a ∧ (rg_R (rg_R v 111 c (nI i)) 112 c (nI b)).2.1 112 k = nI b' ∧ prR E C D k a b'
            by_cases y : k = c
            · subst y
              exact ⟨i, b, by rw [R_at, if_neg (by omega), R_at, if_pos ⟨rfl, rfl⟩], by rw [R_at, if_pos ⟨rfl, rfl⟩], hpr⟩
            · obtain ⟨a, b', y1, y2, y3⟩ := h5.2 k (by omega)
              exact ⟨a, b', by rw [R_at, if_neg (by omega), R_at, if_neg (by omega)]; exact y1, by rw [R_at, if_neg (by omega), R_at, if_neg (by omega)]; exact y2, y3⟩⟩ (Or.inr ⟨i, b, c, rfl, hpr, rfl, rfl⟩) (fun a' b' a1 a2 => by omega) G (by omega)
          exact ⟨w, (lp_l (body := fun (s : Int32 × Int32 × rg_U) => g_X0_choosePairs_l11 F (o1 + 24) (o2 + 24) (nI C) (nI D) s.1 s.2.1 s.2.2) (s := (nI j, nI i, v)) hb).trans k1, k2, k3⟩
        · rw [if_neg z] at hb
          have hno : ∀ b', j ≤ b' → b' < D → ¬ hit E C D (lL E C D i j) i b' := fun b' a1 a2 => g5 b' a1 (by omega)
          have e1 := lL_no (E := E) (D := D) (j := j) q hno
          obtain ⟨w, k1, k2, k3⟩ := c_choose hk hF f i0 (i + 1) j c v (sub_s1 hf) hv hT (by omega) (by omega) h2 (by omega) (by omega) h5 h6 (fun a' b' a1 a2 a3 a4 => by
            by_cases y : a' = i
            · rw [y, ← h4]; exact hno b' a3 a4
            · exact h7 a' b' a1 (by omega) a3 a4) G (by omega)
          exact ⟨w, (lp_l (body := fun (s : Int32 × Int32 × rg_U) => g_X0_choosePairs_l11 F (o1 + 24) (o2 + 24) (nI C) (nI D) s.1 s.2.1 s.2.2) (s := (nI j, nI i, v)) hb).trans k1, k2, k3⟩
      · have hb : g_X0_choosePairs_l11 F (o1 + 24) (o2 + 24) (nI C) (nI D) (nI j) (nI i) v = some (.inr v) := by
          unfold g_X0_choosePairs_l11
          rw [if_neg (nI_ge q (by omega)), h5.1, if_pos (show (100 : Int32) ≤ nI c from nI_le (a := 100) (b := c) (by omega) (by omega))]
        exact ⟨v, lp_r hb, hv, by rw [show lL E C D 0 0 = c by omega]; exact h5⟩
    · have hb : g_X0_choosePairs_l11 F (o1 + 24) (o2 + 24) (nI C) (nI D) (nI j) (nI i) v = some (.inr v) := by
        unfold g_X0_choosePairs_l11
        rw [if_pos (nI_le (by omega) (by omega))]
      have e0 := lL_C (E := E) (D := D) (j := j) (show C ≤ i by omega)
      exact ⟨v, lp_r hb, hv, by rw [show lL E C D 0 0 = c by omega]; exact h5⟩
theorem c_lay {E : Nat → Nat → Bool} (hk : LK uc o1 o2 C D F E) (e1 : rF uc (o1 + 24) 3 = nI C) (e2 : rF uc (o2 + 24) 3 = nI D) (hF : 10000 < F) : ∃ w, g_X0_lay F (o1 + 24) (o2 + 24) uc = some w ∧ lyX uc w ∧ chS w E C D (lL E C D 0 0) := by
  obtain ⟨hC, hD, hG', hE⟩ := id hk
  have im : ∀ n, n ≤ 100 → imin (nI n) 100 = nI n := fun n hn => by
    unfold imin
    rw [if_neg (show ¬ (100 : Int32) < nI n from nI_nlt (a := 100) (b := n) hn (by decide))]
  obtain ⟨w1, a1, a2, a3⟩ := c_countPairs hk hF
  obtain ⟨w, k1, k2, k3⟩ := c_choose hk hF C 0 0 0 0 (sF w1 8 3 0) (by omega) (ly_F a2) a3 (Nat.le_refl _) (Nat.zero_le _) (Nat.zero_le _) rfl rfl ⟨sF_y, fun k hk' => by omega⟩ (Or.inl ⟨rfl, rfl, rfl⟩) (fun a' b' x1 x2 => by omega) F (by omega)
  refine ⟨w, ?_, k2, k3⟩
  unfold g_X0_lay g_X0_choosePairs
  rw [e1, e2, im C hC, im D hD, a1, ob_i, lt1_i]
  rw [show nI 0 = (0 : Int32) from rfl] at k1
  rw [k1, ob_i, ob_i]
theorem LK_i (hX : wkG uc) (h1 : CG uc um o1 r1) (h2 : CG uc um o2 r2) (ho1 : 116 ≤ o1) (ho2 : 116 ≤ o2) (hC : Cr um r1 ≤ 100) (hD : Cr um r2 ≤ 100) : LK uc o1 o2 (Cr um r1) (Cr um r2) F (E35 um r1 r2) := ⟨hC, hD, hX, fun u i j hu hi hj => c_isLike hu h1 h2 ho1 ho2 hC hD hi hj⟩
/-- a run by its number -/
theorem Rel_at (h : RelC pB uc um) (hm : okM um K W) : ((¬ ∃ r, act um K r ∧ x = xr r) ∧ g_X9_numbered F x uc = some none) ∨ ∃ r, act um K r ∧ x = xr r ∧ r < 5 ∧ g_X9_numbered F x uc = some (some (oR r)) ∧ RR pB uc um (oR r) r ∧ runOK um r := by
  obtain ⟨n1, n2⟩ := Rel_num (F := F) (x := x) h hm
  have hK := hm.1.1.2.1
  by_cases q : x = -1
  · have e := n1 q
    rcases hm.1.2.1.1 with w | w
    · rw [w, if_neg (by decide)] at e
      refine Or.inl ⟨?_, e⟩
      rintro ⟨r, a | ⟨a1, a2⟩, a3⟩
      · unfold xr at a3
        rw [if_neg (by omega), q] at a3
        exact nI_m1 (by omega) a3.symm
      · rw [w] at a2
        exact absurd a2 (by decide)
    · rw [w, if_pos rfl] at e
      have ha : act um K 4 := Or.inr ⟨rfl, w⟩
      exact Or.inr ⟨4, ha, q, by omega, e, Rel_run h hm ha, hm.1.2.2.2.2.1 4 ha⟩
  · obtain ⟨n3, n4⟩ := n2 q
    by_cases w : ∃ r, r < K ∧ x = nI r
    · obtain ⟨r, hr, rfl⟩ := w
      have ha : act um K r := Or.inl hr
      exact Or.inr ⟨r, ha, by unfold xr; rw [if_neg (by omega)], by omega, n3 r hr rfl, Rel_run h hm ha, hm.1.2.2.2.2.1 r ha⟩
    · refine Or.inl ⟨?_, n4 w⟩
      rintro ⟨r, a | ⟨a1, a2⟩, a3⟩
      · unfold xr at a3
        rw [if_neg (by omega)] at a3
        exact w ⟨r, a, a3⟩
      · unfold xr at a3
        rw [if_pos a1] at a3
        exact q a3
theorem xr_u {r r' : Nat} (h : r < 5) (h' : r' < 5) (e : xr r = xr r') : r = r' := by
  unfold xr at e
  by_cases z : r = 4
  · rw [if_pos z] at e
    by_cases z' : r' = 4
    · omega
    · rw [if_neg z'] at e
      exact absurd e.symm (nI_m1 (by omega))
  · rw [if_neg z] at e
    by_cases z' : r' = 4
    · rw [if_pos z'] at e
      exact absurd e (nI_m1 (by omega))
    · rw [if_neg z'] at e
      exact nI_inj (by omega) (by omega) e
theorem sr_align (hF : 10000 < F) : SB pB (g_X9_align F x y) (g_X10_align F x y) := fun uc um h => by
  obtain ⟨K, W, r1, r2, -⟩ := id h
  have hK := r1.1.1.2.1
  unfold g_X9_align
  have bad : ¬ ((∃ r, act um K r ∧ x = xr r) ∧ ∃ r, act um K r ∧ y = xr r) → ∃ zm, g_X10_align F x y um = some zm ∧ (-2 : Int32) = zm.1 ∧ RelC pB uc zm.2 := fun hb => by
    rcases m_align (F := F) (x := x) (y := y) r1 hF with ⟨-, q⟩ | ⟨a, b, w, a1, a2, a3, a4, -⟩
    · exact ⟨_, q, rfl, h⟩
    · exact absurd ⟨⟨a, a1, a2⟩, b, a3, a4⟩ hb
  rcases Rel_at (F := F) (x := x) h r1 with ⟨n1, e1⟩ | ⟨p, p1, p2, p3, e1, p4, p5⟩
  · obtain ⟨zm, b1, b2, b3⟩ := bad (fun w => n1 w.1)
    refine ⟨(-2, uc), zm, ?_, b1, b2, b3⟩
    rw [e1, ob_i, om_0]
    rcases Rel_at (F := F) (x := y) h r1 with ⟨n2, e2⟩ | ⟨q, q1, q2, q3, e2, q4, q5⟩
    · rw [e2, ob_i, om_0]
    · rw [e2, ob_i, om_i, ck_t (oR_rn q3)]
  · rcases Rel_at (F := F) (x := y) h r1 with ⟨n2, e2⟩ | ⟨q, q1, q2, q3, e2, q4, q5⟩
    · obtain ⟨zm, b1, b2, b3⟩ := bad (fun w => n2 w.2)
      refine ⟨(-2, uc), zm, ?_, b1, b2, b3⟩
      rw [e1, ob_i, om_i, ck_t (oR_rn p3), e2, ob_i, om_0]
    · rcases m_align (F := F) (x := x) (y := y) r1 hF with ⟨w, -⟩ | ⟨a, b, w, a1, a2, a3, a4, g, ce, ok⟩
      · exact absurd ⟨⟨p, p1, p2⟩, q, q1, q2⟩ w
      · have ea : a = p := xr_u (act5 hK a1) p3 (a2.symm.trans p2)
        have eb : b = q := xr_u (act5 hK a3) q3 (a4.symm.trans q2)
        subst ea eb
        obtain ⟨v, k1, k2, k3⟩ := c_lay (F := F) (LK_i r2.2 p4.2.2.1 q4.2.2.1 oR_ge oR_ge p5.2.2.2.2.2.2.2.2.1 q5.2.2.2.2.2.2.2.2.1) p4.2.2.1.1 q4.2.2.1.1 hF
        refine ⟨(nI (lL (E35 um a b) (Cr um a) (Cr um b) 0 0), v), _, ?_, g, rfl, Rel_e (Rel_ly h k2) r1 ce ok⟩
        rw [e1, ob_i, om_i, ck_t (oR_rn p3), e2, ob_i, om_i, ck_t (oR_rn q3), k1, ob_i, k3.1]
end YK
