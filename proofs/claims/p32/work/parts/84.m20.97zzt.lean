section W_85
-- 97zzt.align
/-! the class and the reference: align -/
/-- nothing but the rows and the pairs of what lies beside is other -/
def lyX (u0 u : rg_U) : Prop := u.2.2 = u0.2.2 ∧ (∀ j, (j < 10 ∨ 115 ≤ j) → u.2.1 j = u0.2.1 j) ∧ ∀ k, k ≠ 803 → u.1 k = u0.1 k
section YK
variable {pB : Prop} {F K W o o1 o2 r r1 r2 C D i j : Nat} {u uc um uc' um' v w : rg_U} {x y z : Int32}
theorem ly_r : lyX u u := ⟨rfl, fun _ _ => rfl, fun _ _ => rfl⟩
theorem ly_R {k : Nat} (h : lyX u v) (hj : 10 ≤ j ∧ j < 115) : lyX u (rg_R v j k x) := ⟨h.1, fun j' hj' => (R_n (by omega)).trans (h.2.1 j' hj'), h.2.2⟩
theorem ly_F (h : lyX u v) : lyX u (sF v 8 3 x) := ⟨h.1, h.2.1, fun k hk => (sF_n hk).trans (h.2.2 k hk)⟩
theorem ly_B (h : lyX u v) (hX : okX u) : okX v := by
  refine ⟨fun p hp => ?_, ?_⟩
  · have hn : wkN 803 := by decide
    rw [h.2.2 _ (hn p hp)]
    exact hX.1 p hp
  · unfold wkG
    rw [h.1]
    exact hX.2
theorem Rel_ly (h : RelC pB uc um) (hl : lyX uc uc') : RelC pB uc' um := by
  obtain ⟨K, W, r1, r2, r3, r4, ⟨s1, s2, s3, s4, s5⟩, r6, r7, r8, r9⟩ := h
  have hK := r1.1.1.2.1
  have cf : ∀ k, k ≠ 803 → uc'.1 k = uc.1 k := hl.2.2
  refine ⟨K, W, r1, ly_B hl r2, OutR_c r3 (cf _ (by omega)) (cf _ (by omega)) (cf _ (by omega)) (hl.2.1 7 (by omega)) rfl rfl, WR_c r4 (cf _ (by omega)) (cf _ (by omega)) rfl, ⟨(cf _ (by omega)).trans s1, (cf _ (by omega)).trans s2, (cf _ (by omega)).trans s3, (cf _ (by omega)).trans s4, fun hb => (cf _ (by omega)).trans (s5 hb)⟩, ?_, fun z k hz hk => ?_, fun h1 => ?_, fun q hq => ⟨?_, ?_⟩⟩
  · rw [show rG uc' 0 7 = rG uc 0 7 by unfold rG; rw [hl.1]]
    exact r6
  · rw [hl.2.1 _ (by omega)]
    exact r7 z k hz hk
  · exact RR_f (r8 h1) (fun j j1 _ => hl.2.1 j (by omega)) (fun k k1 k2 => cf k (by omega))
  · exact RR_f (r9 q hq).1 (fun j j1 _ => hl.2.1 j (by omega)) (fun k k1 k2 => cf k (by omega))
  · exact (cf _ (by omega)).trans (r9 q hq).2
theorem c_rowQ (hG : wkG uc) (h : lyX uc u) (hi : i < 101) : rQ u 9 (nI i) = some (10 + i) := by
  unfold rQ
  rw [h.1, nI_clamp (by omega)]
  exact hG.2.2 i hi
theorem rw_i (hi : i < 101) : isRw (10 + i) := ⟨by omega, by omega⟩
theorem c_isLike (hu : lyX uc u) (h1 : CG uc um o1 r1) (h2 : CG uc um o2 r2) (ho1 : 116 ≤ o1) (ho2 : 116 ≤ o2) (hC : Cr um r1 ≤ 100) (hD : Cr um r2 ≤ 100) (hi : i < Cr um r1) (hj : j < Cr um r2) : g_X1_isLike F (o1 + 24) (nI i) (o2 + 24) (nI j) u = some (if E35 um r1 r2 i j then 1 else 0) := by
  have a1 : ∀ (o r : Nat) (k : Nat), 116 ≤ o → CG uc um o r → Cr um r ≤ 100 → k < Cr um r → g_X1_has F (o + 24) (nI k) u = some 1 := fun o r k ho h hc hk => by
    have e3 : rF u (o + 24) 3 = nI (Cr um r) := (hu.2.2 _ (by omega)).trans h.1
    unfold g_X1_has
    rw [if_neg (nI_pos (by omega)), e3, if_neg (nI_ge hk (by omega)), if_neg (show ¬ (100 : Int32) ≤ nI k from nI_ge (a := k) (b := 100) (by omega) (by decide))]
  have e26 : ∀ (o r k : Nat), 116 ≤ o → CG uc um o r → k < Cr um r → u.2.1 (o + 24 + 2) k = um.2.1 17 (100 * r + k) ∧ u.2.1 (o + 24 + 3) k = um.2.1 18 (100 * r + k) := fun o r k ho h hk => by
    rw [hu.2.1 _ (by omega), hu.2.1 _ (by omega)]
    exact ⟨(h.2 k hk).2.1, (h.2 k hk).2.2⟩
  unfold g_X1_isLike E35
  rw [a1 o1 r1 i ho1 h1 hC hi, ob_i, if_neg one_n0, a1 o2 r2 j ho2 h2 hD hj, ob_i, if_neg one_n0, ck_t (inb_nI (by omega) (by decide)), ck_t (inb_nI (by omega) (by decide)), ck_t (inb_nI (by omega) (by decide)), ck_t (inb_nI (by omega) (by decide)), rA_nI (by omega), rA_nI (by omega), rA_nI (by omega), rA_nI (by omega), (e26 o1 r1 i ho1 h1 hi).1, (e26 o1 r1 i ho1 h1 hi).2, (e26 o2 r2 j ho2 h2 hj).1, (e26 o2 r2 j ho2 h2 hj).2]
  by_cases q : um.2.1 17 (100 * r1 + i) = um.2.1 17 (100 * r2 + j)
  · rw [if_pos q]
    by_cases z : um.2.1 18 (100 * r1 + i) = um.2.1 18 (100 * r2 + j)
    · rw [if_pos z, if_pos (by simp [q, z])]
    · rw [if_neg z, if_neg (by simp [z])]
  · rw [if_neg q, if_neg (by simp [q])]
/-- the rows of the table from row i on, row i from m on -/
def rT (v : rg_U) (L : Nat → Nat → Nat) (C D i m : Nat) : Prop := (∀ i' j', i < i' → i' ≤ C → j' ≤ D → v.2.1 (10 + i') j' = nI (L i' j')) ∧ ∀ j', m ≤ j' → j' ≤ D → v.2.1 (10 + i) j' = nI (L i j')
/-- that the class's like calls are E -/
def LK (uc : rg_U) (o1 o2 C D F : Nat) (E : Nat → Nat → Bool) : Prop := C ≤ 100 ∧ D ≤ 100 ∧ wkG uc ∧ ∀ u i j, lyX uc u → i < C → j < D → g_X1_isLike F (o1 + 24) (nI i) (o2 + 24) (nI j) u = some (if E i j then 1 else 0)
theorem c_cell {E : Nat → Nat → Bool} (hk : LK uc o1 o2 C D F E) (hv : lyX uc v) (hi : i < C) (hj : j < D) (hT : rT v (lL E C D) C D i (j + 1)) : ∃ w, g_X0_countPairs_l37 F (o1 + 24) (o2 + 24) (nI D) (nI i) (nI j) v = some (.inl (nI j + (-1), w)) ∧ lyX uc w ∧ rT w (lL E C D) C D i j := by
  obtain ⟨hC, hD, hG, hE⟩ := hk
  have hl : ∀ a b, lL E C D a b ≤ 100 := fun a b => Nat.le_trans lL_le hC
  have q1 := c_rowQ hG hv (show i + 1 < 101 by omega)
  have q0 := c_rowQ hG hv (show i < 101 by omega)
  have w1 := rw_i (show i + 1 < 101 by omega)
  have w0 := rw_i (show i < 101 by omega)
  have b1 : inb (nI (i + 1)) 101 := inb_nI (by omega) (by decide)
  have b0 : inb (nI i) 101 := inb_nI (by omega) (by decide)
  have d1 : inb (nI (j + 1)) 101 := inb_nI (by omega) (by decide)
  have d0 : inb (nI j) 101 := inb_nI (by omega) (by decide)
  have fin : g_X0_countPairs_l37 F (o1 + 24) (o2 + 24) (nI D) (nI i) (nI j) v = some (.inl (nI j + (-1), rg_R v (10 + i) j (nI (lL E C D i j)))) := by
    have e103 : ∀ a b : Nat, a ≤ 200 → b ≤ 200 → max a b = lL E C D i j → g_X0_countPairs_j103 F (o1 + 24) (o2 + 24) (nI D) (nI i) (nI j) (nI a) (nI b) v = some (.inl (nI j + (-1), rg_R v (10 + i) j (nI (lL E C D i j)))) := fun a b ha hb e => by
      unfold g_X0_countPairs_j103
      rw [ck_t b0, q0, om_i, ck_t w0, ck_t d0, lt1_i, imax_nI (by omega) (by omega), e, sA_nI (by omega)]
    unfold g_X0_countPairs_l37
    rw [if_neg (nI_pos (by omega)), nI_1, nI_1, ck_t b1, q1, om_i, ck_t w1, ck_t d0, ck_t b0, q0, om_i, ck_t w0, ck_t d1, hE v i j hv hi hj, ob_i, rA_nI (by omega), rA_nI (by omega), hT.1 (i + 1) j (by omega) (by omega) (by omega), hT.2 (j + 1) (Nat.le_refl _) (by omega), imax_nI (by have := hl (i + 1) j; omega) (by have := hl i (j + 1); omega)]
    have hs := lL_s (E := E) hi hj
    have l1 := hl (i + 1) j
    have l2 := hl i (j + 1)
    have l3 := hl (i + 1) (j + 1)
    by_cases z : E i j = true
    · rw [if_pos z] at hs
      rw [if_pos z, if_neg one_n0, ck_t b1, om_i, ck_t w1, ck_t d1, rA_nI (by omega), hT.1 (i + 1) (j + 1) (by omega) (by omega) (by omega), show (1 : Int32) + nI (lL E C D (i + 1) (j + 1)) = nI (1 + lL E C D (i + 1) (j + 1)) from nI_add 1 _]
      exact e103 _ _ (by omega) (by omega) hs.symm
    · rw [if_neg z] at hs
      rw [if_neg z, if_pos rfl]
      exact e103 _ 0 (by omega) (by omega) hs.symm
  refine ⟨_, fin, ly_R hv (by omega), fun i' j' a1 a2 a3 => ?_, fun j' a1 a2 => ?_⟩
  · rw [R_at, if_neg (by omega)]
    exact hT.1 i' j' a1 a2 a3
  · rw [R_at]
    by_cases z : j' = j
    · rw [if_pos ⟨rfl, z⟩, z]
    · rw [if_neg (by omega)]
      exact hT.2 j' (by omega) a2
theorem c_rowl {E : Nat → Nat → Bool} (hk : LK uc o1 o2 C D F E) (hi : i < C) : ∀ (m : Nat) (v : rg_U), m ≤ D → lyX uc v → rT v (lL E C D) C D i m → ∀ G, m < G → ∃ w, lp (fun (s : Int32 × rg_U) => g_X0_countPairs_l37 F (o1 + 24) (o2 + 24) (nI D) (nI i) s.1 s.2) G (nI m + (-1), v) = some w ∧ lyX uc w ∧ rT w (lL E C D) C D i 0
  | m, v, hm, hv, hT, 0, hG => by omega
  | 0, v, hm, hv, hT, G + 1, hG => by
    refine ⟨v, lp_r ?_, hv, hT⟩
    unfold g_X0_countPairs_l37
    dsimp only
    rw [if_pos (by decide)]
  | m + 1, v, hm, hv, hT, G + 1, hG => by
    obtain ⟨w, g1, g2, g3⟩ := c_cell (j := m) hk hv hi (by omega) hT
    rw [nI_dec, lp_l (body := fun (s : Int32 × rg_U) => g_X0_countPairs_l37 F (o1 + 24) (o2 + 24) (nI D) (nI i) s.1 s.2) (s := (nI m, v)) g1]
    exact c_rowl hk hi m w (by omega) g2 g3 G (by omega)
theorem c_rowsl {E : Nat → Nat → Bool} (hk : LK uc o1 o2 C D F E) (hF : 10000 < F) : ∀ (m : Nat) (v : rg_U), m ≤ C → lyX uc v → (∀ i' j', m ≤ i' → i' ≤ C → j' ≤ D → v.2.1 (10 + i') j' = nI (lL E C D i' j')) → ∀ G, m < G → ∃ w, lp (fun (s : Int32 × rg_U) => g_X0_countPairs_l15 F (o1 + 24) (o2 + 24) (nI D) s.1 s.2) G (nI m + (-1), v) = some w ∧ lyX uc w ∧ ∀ i' j', i' ≤ C → j' ≤ D → w.2.1 (10 + i') j' = nI (lL E C D i' j')
  | m, v, hm, hv, hT, 0, hG => by omega
  | 0, v, hm, hv, hT, G + 1, hG => by
    refine ⟨v, lp_r ?_, hv, fun i' j' => hT i' j' (Nat.zero_le _)⟩
    unfold g_X0_countPairs_l15
    dsimp only
    rw [if_pos (by decide)]
  | m + 1, v, hm, hv, hT, G + 1, hG => by
    obtain ⟨hC, hD, hG', hE⟩ := id hk
    have hv1 : lyX uc (rg_R v (10 + m) D 0) := ly_R hv (by omega)
    obtain ⟨w, g1, g2, g3⟩ := c_rowl (i := m) hk (by omega) D (rg_R v (10 + m) D 0) (Nat.le_refl _) hv1 ⟨fun i' j' a1 a2 a3 => by rw [R_at, if_neg (by omega)]; exact hT i' j' a1 a2 a3, fun j' a1 a2 => by rw [R_at, if_pos ⟨rfl, by omega⟩, show j' = D by omega, lL_D (Nat.le_refl _)]; rfl⟩ F (by omega)
    have hb : g_X0_countPairs_l15 F (o1 + 24) (o2 + 24) (nI D) (nI m) v = some (.inl (nI m + (-1), w)) := by
      unfold g_X0_countPairs_l15
      rw [if_neg (nI_pos (by omega)), ck_t (inb_nI (by omega) (by decide)), c_rowQ hG' hv (by omega), om_i, ck_t (rw_i (by omega)), ck_t (inb_nI (by omega) (by decide)), lt1_i, sA_nI (by omega), show nI D - 1 = nI D + (-1) from Int32.sub_eq_add_neg _ _, g1, ob_i]
    rw [nI_dec, lp_l (body := fun (s : Int32 × rg_U) => g_X0_countPairs_l15 F (o1 + 24) (o2 + 24) (nI D) s.1 s.2) (s := (nI m, v)) hb]
    refine c_rowsl hk hF m w (by omega) g2 (fun i' j' a1 a2 a3 => ?_) G (by omega)
    by_cases z : i' = m
    · rw [z]; exact g3.2 j' (Nat.zero_le _) a3
    · exact g3.1 i' j' (by omega) a2 a3
theorem c_countPairs {E : Nat → Nat → Bool} (hk : LK uc o1 o2 C D F E) (hF : 10000 < F) : ∃ w, g_X0_countPairs F (o1 + 24) (nI C) (o2 + 24) (nI D) uc = some w ∧ lyX uc w ∧ ∀ i' j', i' ≤ C → j' ≤ D → w.2.1 (10 + i') j' = nI (lL E C D i' j') := by
  obtain ⟨hC, hD, hG', hE⟩ := id hk
  have hv : lyX uc (sFill uc (10 + C) 101 0) := ⟨rfl, fun j hj => pm_up_n (by omega), fun _ _ => rfl⟩
  obtain ⟨w, g1, g2⟩ := c_rowsl hk hF C (sFill uc (10 + C) 101 0) (Nat.le_refl _) hv (fun i' j' a1 a2 a3 => by
    rw [show i' = C by omega, lL_C (Nat.le_refl _)]
    show va_up uc.2.1 (10 + C) (fun i => if i < 101 then 0 else uc.2.1 (10 + C) i) (10 + C) j' = _
    unfold va_up
    rw [if_pos rfl]
    exact if_pos (by omega)) F (by omega)
  refine ⟨w, ?_, g2⟩
  unfold g_X0_countPairs
  rw [ck_t (inb_nI (by omega) (by decide)), c_rowQ hG' ly_r (by omega), om_i, ck_t (rw_i (by omega)), g_fill_eq (by decide) (by omega), ob_i, show nI C - 1 = nI C + (-1) from Int32.sub_eq_add_neg _ _, g1, ob_i]
/-! the pairs -/
theorem lL_m1 {E : Nat → Nat → Bool} : lL E C D (i + 1) j ≤ lL E C D i j := by
  rcases Nat.lt_or_ge i C with h1 | h1
  · rcases Nat.lt_or_ge j D with h2 | h2
    · have := lL_s (E := E) h1 h2
      omega
    · rw [lL_D h2]; omega
  · rw [lL_C (show C ≤ i + 1 by omega)]; omega
theorem lL_m2 {E : Nat → Nat → Bool} : lL E C D i (j + 1) ≤ lL E C D i j := by
  rcases Nat.lt_or_ge i C with h1 | h1
  · rcases Nat.lt_or_ge j D with h2 | h2
    · have := lL_s (E := E) h1 h2
      omega
    · rw [lL_D (show D ≤ j + 1 by omega)]; omega
  · rw [lL_C h1]; omega
theorem lL_mi {E : Nat → Nat → Bool} : ∀ a, lL E C D (i + a) j ≤ lL E C D i j
  | 0 => Nat.le_refl _
  | a + 1 => Nat.le_trans (lL_m1 (i := i + a)) (lL_mi a)
theorem lL_mj {E : Nat → Nat → Bool} : ∀ b, lL E C D i (j + b) ≤ lL E C D i j
  | 0 => Nat.le_refl _
  | b + 1 => Nat.le_trans (lL_m2 (j := j + b)) (lL_mj b)
theorem lL_hit {E : Nat → Nat → Bool} {a b : Nat} (h1 : i ≤ a) (h2 : j ≤ b) (ha : a < C) (hb : b < D) (hE : E a b = true) : 1 + lL E C D (a + 1) (b + 1) ≤ lL E C D i j := by
  have hs := lL_s (E := E) ha hb
  rw [if_pos hE] at hs
  have m1 := lL_mi (E := E) (C := C) (D := D) (i := i) (j := j) (a - i)
  have m2 := lL_mj (E := E) (C := C) (D := D) (i := a) (j := j) (b - j)
  rw [show i + (a - i) = a by omega] at m1
  rw [show j + (b - j) = b by omega] at m2
  omega
theorem lL_no {E : Nat → Nat → Bool} (hi : i < C) (h : ∀ b, j ≤ b → b < D → ¬ hit E C D (lL E C D i j) i b) : lL E C D (i + 1) j = lL E C D i j := by
  have m := lL_m1 (E := E) (C := C) (D := D) (i := i) (j := j)
  rcases Nat.eq_zero_or_pos (lL E C D i j) with z | z
  · omega
  · obtain ⟨a, b, y1, y2, y3, y4, y5, y6⟩ := lL_ex (E := E) (C := C) (D := D) _ i j (Nat.le_refl _) z
    by_cases w : a = i
    · subst w
      exact absurd ⟨y5, y6⟩ (h b y3 y4)
    · have := lL_hit (E := E) (C := C) (D := D) (i := i + 1) (j := j) (by omega) y3 y2 y4 y5
      omega
/-- a row is looked through from column j on -/
theorem c_scan {E : Nat → Nat → Bool} {j0 : Nat} (hk : LK uc o1 o2 C D F E) (hv : lyX uc v) (hT : ∀ i' j', i' ≤ C → j' ≤ D → v.2.1 (10 + i') j' = nI (lL E C D i' j')) (hi : i < C) (hj0 : j0 ≤ D) : ∀ (f j : Nat), D - j ≤ f → j0 ≤ j → j ≤ D → ∀ G, f < G → ∃ b, lp (fun (s : Int32) => g_X0_choosePairs_l30 F (o1 + 24) (o2 + 24) (nI C) (nI D) (nI j0) (nI i) v s) G (nI j) = some (nI b) ∧ j ≤ b ∧ b ≤ D ∧ (b < D → hit E C D (lL E C D i j0) i b) ∧ ∀ b', j ≤ b' → b' < b → ¬ hit E C D (lL E C D i j0) i b'
  | f, j, hf, h1, h2, 0, hG => by omega
  | f, j, hf, h1, h2, G + 1, hG => by
    obtain ⟨hC, hD, hG', hE⟩ := id hk
    have hl : ∀ a b, lL E C D a b ≤ 100 := fun a b => Nat.le_trans lL_le hC
    by_cases q : j < D
    · have hb : g_X0_choosePairs_l30 F (o1 + 24) (o2 + 24) (nI C) (nI D) (nI j0) (nI i) v (nI j) = if E i j = true ∧ 1 + lL E C D (i + 1) (j + 1) = lL E C D i j0 then some (.inr (nI j)) else some (.inl (nI (j + 1))) := by
        unfold g_X0_choosePairs_l30 g_X0_choosePairs_j78
        rw [if_neg (nI_ge q (by omega)), hE v i j hv hi q, ob_i, nI_1, nI_1]
        by_cases z : E i j = true
        · rw [if_pos z, if_neg one_n0, ck_t (inb_nI (by omega) (by decide)), c_rowQ hG' hv (by omega), om_i, ck_t (rw_i (by omega)), ck_t (inb_nI (by omega) (by decide)), ck_t (inb_nI (by omega) (by decide)), c_rowQ hG' hv (by omega), om_i, ck_t (rw_i (by omega)), ck_t (inb_nI (by omega) (by decide)), rA_nI (by omega), rA_nI (by omega), hT _ _ (by omega) (by omega), hT _ _ (by omega) hj0, show (1 : Int32) + nI (lL E C D (i + 1) (j + 1)) = nI (1 + lL E C D (i + 1) (j + 1)) from nI_add 1 _]
          by_cases y : 1 + lL E C D (i + 1) (j + 1) = lL E C D i j0
          · rw [if_pos (by rw [y]), if_pos ⟨z, y⟩]
          · rw [if_neg (fun w => y (nI_inj (by have := hl (i + 1) (j + 1); omega) (by have := hl i j0; omega) w)), if_neg (fun w => y w.2)]
        · rw [if_neg z, if_pos rfl, if_neg (fun w => z w.1)]
      by_cases z : E i j = true ∧ 1 + lL E C D (i + 1) (j + 1) = lL E C D i j0
      · rw [if_pos z] at hb
        exact ⟨j, lp_r hb, Nat.le_refl _, h2, fun _ => z, fun b' a1 a2 => by omega⟩
      · rw [if_neg z] at hb
        match f, hf, hG with
        | 0, hf, hG => omega
        | f + 1, hf, hG =>
        obtain ⟨b, g1, g2, g3, g4, g5⟩ := c_scan hk hv hT hi hj0 f (j + 1) (by omega) (by omega) (by omega) G (by omega)
        refine ⟨b, (lp_l (body := fun (s : Int32) => g_X0_choosePairs_l30 F (o1 + 24) (o2 + 24) (nI C) (nI D) (nI j0) (nI i) v s) (s := nI j) hb).trans g1, by omega, g3, g4, fun b' a1 a2 => ?_⟩
        by_cases w : b' = j
        · rw [w]; exact z
        · exact g5 b' (by omega) a2
    · have hb : g_X0_choosePairs_l30 F (o1 + 24) (o2 + 24) (nI C) (nI D) (nI j0) (nI i) v (nI j) = some (.inr (nI j)) := by
        unfold g_X0_choosePairs_l30
        rw [if_pos (nI_le (by omega) (by omega))]
      exact ⟨j, lp_r hb, Nat.le_refl _, h2, fun w => absurd w q, fun b' a1 a2 => by omega⟩
theorem sub_s1 {a b n : Nat} (h : a - b ≤ n + 1) : a - (b + 1) ≤ n := by omega
/-- what is chosen so far -/
def chS (v : rg_U) (E : Nat → Nat → Bool) (C D c : Nat) : Prop := rF v 8 3 = nI c ∧ ∀ k, k < c → ∃ a b, v.2.1 111 k = nI a ∧ v.2.1 112 k = nI b ∧ prR E C D k a b
theorem c_choose {E : Nat → Nat → Bool} (hk : LK uc o1 o2 C D F E) (hF : 10000 < F) : ∀ (f i0 i j c : Nat) (v : rg_U), C - i ≤ f → lyX uc v → (∀ i' j', i' ≤ C → j' ≤ D → v.2.1 (10 + i') j' = nI (lL E C D i' j')) → i0 ≤ i → i ≤ C → j ≤ D → lL E C D i j + c = lL E C D 0 0 → lL E C D i j = lL E C D i0 j → chS v E C D c → ((c = 0 ∧ i0 = 0 ∧ j = 0) ∨ ∃ a b c', c = c' + 1 ∧ prR E C D c' a b ∧ i0 = a + 1 ∧ j = b + 1) → (∀ a' b', i0 ≤ a' → a' < i → j ≤ b' → b' < D → ¬ hit E C D (lL E C D i0 j) a' b') → ∀ G, f < G → ∃ w, lp (fun (s : Int32 × Int32 × rg_U) => g_X0_choosePairs_l11 F (o1 + 24) (o2 + 24) (nI C) (nI D) s.1 s.2.1 s.2.2) G (nI j, nI i, v) = some w ∧ lyX uc w ∧ chS w E C D (lL E C D 0 0)
  | f, i0, i, j, c, v, hf, hv, hT, h0, h1, h2, h3, h4, h5, h6, h7, 0, hG => by omega
  | f, i0, i, j, c, v, hf, hv, hT, h0, h1, h2, h3, h4, h5, h6, h7, G + 1, hG => by
    obtain ⟨hC, hD, hG', hE⟩ := id hk
    have hN : lL E C D 0 0 ≤ 100 := Nat.le_trans lL_le hC
    by_cases q : i < C
    · by_cases q2 : c < 100
      · match f, hf, hG with
        | 0, hf, hG => omega
        | f + 1, hf, hG =>
        obtain ⟨b, g1, g2, g3, g4, g5⟩ := c_scan hk hv hT q h2 (D - j) j (Nat.le_refl _) (Nat.le_refl _) h2 F (by omega)
        have hb : g_X0_choosePairs_l11 F (o1 + 24) (o2 + 24) (nI C) (nI D) (nI j) (nI i) v = if b < D then some (.inl (nI (b + 1), nI (i + 1), sF (rg_R (rg_R v 111 c (nI i)) 112 c (nI b)) 8 3 (nI (c + 1)))) else some (.inl (nI j, nI (i + 1), v)) := by
          unfold g_X0_choosePairs_l11
          rw [if_neg (nI_ge q (by omega)), h5.1, if_neg (show ¬ (100 : Int32) ≤ nI c from nI_ge (a := c) (b := 100) q2 (by decide)), g1, ob_i]
          unfold g_X0_choosePairs_j84 g_X0_choosePairs_j129
          by_cases z : b < D
          · have e3 : rF (rg_R v 111 c (nI i)) 8 3 = nI c := h5.1
            have e4 : rF (rg_R (rg_R v 111 c (nI i)) 112 c (nI b)) 8 3 = nI c := h5.1
            rw [if_neg (nI_ge z (by omega)), if_pos z, h5.1, ck_t (inb_nI (by omega) (by decide)), lt1_i, sA_nI (by omega), e3, ck_t (inb_nI (by omega) (by decide)), lt1_i, sA_nI (by omega), lt1_i, e4, nI_1, nI_1, nI_1]
          · rw [if_pos (nI_le (by omega) (by omega)), if_neg z, nI_1]
        by_cases z : b < D
        · rw [if_pos z] at hb
          have hh := g4 z
          have hfp : fpR E C D i0 j i b := by
            refine ⟨h0, q, g2, z, by rw [← h4]; exact hh, fun a' b' a1 a2 a3 a4 => ?_⟩
            unfold lxl at a4
            rcases a4 with a4 | ⟨a4, a5⟩
            · exact h7 a' b' a1 a4 a2 a3
            · rw [a4, ← h4]; exact g5 b' a2 a5
          have hpr : prR E C D c i b := by
            rcases h6 with ⟨z1, z2, z3⟩ | ⟨a', b', c', z1, z2, z3, z4⟩
            · subst z1 z2 z3; exact hfp
            · subst z1 z3 z4; exact ⟨a', b', z2, hfp⟩
          obtain ⟨w, k1, k2, k3⟩ := c_choose hk hF f (i + 1) (i + 1) (b + 1) (c + 1) (sF (rg_R (rg_R v 111 c (nI i)) 112 c (nI b)) 8 3 (nI (c + 1))) (by omega) (ly_F (ly_R (ly_R hv (by omega)) (by omega))) (fun i' j' a1 a2 => by
            show (rg_R (rg_R v 111 c (nI i)) 112 c (nI b)).2.1 (10 + i') j' = _
            rw [R_at, if_neg (by omega), R_at, if_neg (by omega)]
            exact hT i' j' a1 a2) (Nat.le_refl _) (by omega) (by omega) (by have := hh.2; omega) rfl ⟨sF_y, fun k hk' => by
            show ∃ a b', (rg_R (rg_R v 111 c (nI i)) 112 c (nI b)).2.1 111 k = nI a ∧ (rg_R (rg_R v 111 c (nI i)) 112 c (nI b)).2.1 112 k = nI b' ∧ prR E C D k a b'
            by_cases y : k = c
            · subst y
              exact ⟨i, b, by rw [R_at, if_neg (by omega), R_at, if_pos ⟨rfl, rfl⟩], by rw [R_at, if_pos ⟨rfl, rfl⟩], hpr⟩
            · obtain ⟨a, b', y1, y2, y3⟩ := h5.2 k (by omega)
              exact ⟨a, b', by rw [R_at, if_neg (by omega), R_at, if_neg (by omega)]; exact y1, by rw [R_at, if_neg (by omega), R_at, if_neg (by omega)]; exact y2, y3⟩⟩ (Or.inr ⟨i, b, c, rfl, hpr, rfl, rfl⟩) (fun a' b' a1 a2 => by omega) G (by omega)
          exact ⟨w, (lp_l (body := fun (s : Int32 × Int32 × rg_U) => g_X0_choosePairs_l11 F (o1 + 24) (o2 + 24) (nI C) (nI D) s.1 s.2.1 s.2.2) (s := (nI j, nI i, v)) hb).trans k1, k2, k3⟩
        · rw [if_neg z] at hb
          have hno : ∀ b', j ≤ b' → b' < D → ¬ hit E C D (lL E C D i j) i b' := fun b' a1 a2 => g5 b' a1 (by omega)
          have e1 := lL_no (E := E) (D := D) (j := j) q hno
          obtain ⟨w, k1, k2, k3⟩ := c_choose hk hF f i0 (i + 1) j c v (sub_s1 hf) hv hT (by omega) (by omega) h2 (by omega) (by omega) h5 h6 (fun a' b' a1 a2 a3 a4 => by
            by_cases y : a' = i
            · rw [y, ← h4]; exact hno b' a3 a4
            · exact h7 a' b' a1 (by omega) a3 a4) G (by omega)
          exact ⟨w, (lp_l (body := fun (s : Int32 × Int32 × rg_U) => g_X0_choosePairs_l11 F (o1 + 24) (o2 + 24) (nI C) (nI D) s.1 s.2.1 s.2.2) (s := (nI j, nI i, v)) hb).trans k1, k2, k3⟩
      · have hb : g_X0_choosePairs_l11 F (o1 + 24) (o2 + 24) (nI C) (nI D) (nI j) (nI i) v = some (.inr v) := by
          unfold g_X0_choosePairs_l11
          rw [if_neg (nI_ge q (by omega)), h5.1, if_pos (show (100 : Int32) ≤ nI c from nI_le (a := 100) (b := c) (by omega) (by omega))]
        exact ⟨v, lp_r hb, hv, by rw [show lL E C D 0 0 = c by omega]; exact h5⟩
    · have hb : g_X0_choosePairs_l11 F (o1 + 24) (o2 + 24) (nI C) (nI D) (nI j) (nI i) v = some (.inr v) := by
        unfold g_X0_choosePairs_l11
        rw [if_pos (nI_le (by omega) (by omega))]
      have e0 := lL_C (E := E) (D := D) (j := j) (show C ≤ i by omega)
      exact ⟨v, lp_r hb, hv, by rw [show lL E C D 0 0 = c by omega]; exact h5⟩
theorem c_lay {E : Nat → Nat → Bool} (hk : LK uc o1 o2 C D F E) (e1 : rF uc (o1 + 24) 3 = nI C) (e2 : rF uc (o2 + 24) 3 = nI D) (hF : 10000 < F) : ∃ w, g_X0_lay F (o1 + 24) (o2 + 24) uc = some w ∧ lyX uc w ∧ chS w E C D (lL E C D 0 0) := by
  obtain ⟨hC, hD, hG', hE⟩ := id hk
  have im : ∀ n, n ≤ 100 → imin (nI n) 100 = nI n := fun n hn => by
    unfold imin
    rw [if_neg (show ¬ (100 : Int32) < nI n from nI_nlt (a := 100) (b := n) hn (by decide))]
  obtain ⟨w1, a1, a2, a3⟩ := c_countPairs hk hF
  obtain ⟨w, k1, k2, k3⟩ := c_choose hk hF C 0 0 0 0 (sF w1 8 3 0) (by omega) (ly_F a2) a3 (Nat.le_refl _) (Nat.zero_le _) (Nat.zero_le _) rfl rfl ⟨sF_y, fun k hk' => by omega⟩ (Or.inl ⟨rfl, rfl, rfl⟩) (fun a' b' x1 x2 => by omega) F (by omega)
  refine ⟨w, ?_, k2, k3⟩
  unfold g_X0_lay g_X0_choosePairs
  rw [e1, e2, im C hC, im D hD, a1, ob_i, lt1_i]
  rw [show nI 0 = (0 : Int32) from rfl] at k1
  rw [k1, ob_i, ob_i]
theorem LK_i (hX : wkG uc) (h1 : CG uc um o1 r1) (h2 : CG uc um o2 r2) (ho1 : 116 ≤ o1) (ho2 : 116 ≤ o2) (hC : Cr um r1 ≤ 100) (hD : Cr um r2 ≤ 100) : LK uc o1 o2 (Cr um r1) (Cr um r2) F (E35 um r1 r2) := ⟨hC, hD, hX, fun u i j hu hi hj => c_isLike hu h1 h2 ho1 ho2 hC hD hi hj⟩
/-- a run by its number -/
theorem Rel_at (h : RelC pB uc um) (hm : okM um K W) : ((¬ ∃ r, act um K r ∧ x = xr r) ∧ g_X9_numbered F x uc = some none) ∨ ∃ r, act um K r ∧ x = xr r ∧ r < 5 ∧ g_X9_numbered F x uc = some (some (oR r)) ∧ RR pB uc um (oR r) r ∧ runOK um r := by
  obtain ⟨n1, n2⟩ := Rel_num (F := F) (x := x) h hm
  have hK := hm.1.1.2.1
  by_cases q : x = -1
  · have e := n1 q
    rcases hm.1.2.1.1 with w | w
    · rw [w, if_neg (by decide)] at e
      refine Or.inl ⟨?_, e⟩
      rintro ⟨r, a | ⟨a1, a2⟩, a3⟩
      · unfold xr at a3
        rw [if_neg (by omega), q] at a3
        exact nI_m1 (by omega) a3.symm
      · rw [w] at a2
        exact absurd a2 (by decide)
    · rw [w, if_pos rfl] at e
      have ha : act um K 4 := Or.inr ⟨rfl, w⟩
      exact Or.inr ⟨4, ha, q, by omega, e, Rel_run h hm ha, hm.1.2.2.2.2.1 4 ha⟩
  · obtain ⟨n3, n4⟩ := n2 q
    by_cases w : ∃ r, r < K ∧ x = nI r
    · obtain ⟨r, hr, rfl⟩ := w
      have ha : act um K r := Or.inl hr
      exact Or.inr ⟨r, ha, by unfold xr; rw [if_neg (by omega)], by omega, n3 r hr rfl, Rel_run h hm ha, hm.1.2.2.2.2.1 r ha⟩
    · refine Or.inl ⟨?_, n4 w⟩
      rintro ⟨r, a | ⟨a1, a2⟩, a3⟩
      · unfold xr at a3
        rw [if_neg (by omega)] at a3
        exact w ⟨r, a, a3⟩
      · unfold xr at a3
        rw [if_pos a1] at a3
        exact q a3
theorem xr_u {r r' : Nat} (h : r < 5) (h' : r' < 5) (e : xr r = xr r') : r = r' := by
  unfold xr at e
  by_cases z : r = 4
  · rw [if_pos z] at e
    by_cases z' : r' = 4
    · omega
    · rw [if_neg z'] at e
      exact absurd e.symm (nI_m1 (by omega))
  · rw [if_neg z] at e
    by_cases z' : r' = 4
    · rw [if_pos z'] at e
      exact absurd e (nI_m1 (by omega))
    · rw [if_neg z'] at e
      exact nI_inj (by omega) (by omega) e
theorem sr_align (hF : 10000 < F) : SB pB (g_X9_align F x y) (g_X10_align F x y) := fun uc um h => by
  obtain ⟨K, W, r1, r2, -⟩ := id h
  have hK := r1.1.1.2.1
  unfold g_X9_align
  have bad : ¬ ((∃ r, act um K r ∧ x = xr r) ∧ ∃ r, act um K r ∧ y = xr r) → ∃ zm, g_X10_align F x y um = some zm ∧ (-2 : Int32) = zm.1 ∧ RelC pB uc zm.2 := fun hb => by
    rcases m_align (F := F) (x := x) (y := y) r1 hF with ⟨-, q⟩ | ⟨a, b, w, a1, a2, a3, a4, -⟩
    · exact ⟨_, q, rfl, h⟩
    · exact absurd ⟨⟨a, a1, a2⟩, b, a3, a4⟩ hb
  rcases Rel_at (F := F) (x := x) h r1 with ⟨n1, e1⟩ | ⟨p, p1, p2, p3, e1, p4, p5⟩
  · obtain ⟨zm, b1, b2, b3⟩ := bad (fun w => n1 w.1)
    refine ⟨(-2, uc), zm, ?_, b1, b2, b3⟩
    rw [e1, ob_i, om_0]
    rcases Rel_at (F := F) (x := y) h r1 with ⟨n2, e2⟩ | ⟨q, q1, q2, q3, e2, q4, q5⟩
    · rw [e2, ob_i, om_0]
    · rw [e2, ob_i, om_i, ck_t (oR_rn q3)]
  · rcases Rel_at (F := F) (x := y) h r1 with ⟨n2, e2⟩ | ⟨q, q1, q2, q3, e2, q4, q5⟩
    · obtain ⟨zm, b1, b2, b3⟩ := bad (fun w => n2 w.2)
      refine ⟨(-2, uc), zm, ?_, b1, b2, b3⟩
      rw [e1, ob_i, om_i, ck_t (oR_rn p3), e2, ob_i, om_0]
    · rcases m_align (F := F) (x := x) (y := y) r1 hF with ⟨w, -⟩ | ⟨a, b, w, a1, a2, a3, a4, g, ce, ok⟩
      · exact absurd ⟨⟨p, p1, p2⟩, q, q1, q2⟩ w
      · have ea : a = p := xr_u (act5 hK a1) p3 (a2.symm.trans p2)
        have eb : b = q := xr_u (act5 hK a3) q3 (a4.symm.trans q2)
        subst ea eb
        obtain ⟨v, k1, k2, k3⟩ := c_lay (F := F) (LK_i r2.2 p4.2.2.1 q4.2.2.1 oR_ge oR_ge p5.2.2.2.2.2.2.2.2.1 q5.2.2.2.2.2.2.2.2.1) p4.2.2.1.1 q4.2.2.1.1 hF
        refine ⟨(nI (lL (E35 um a b) (Cr um a) (Cr um b) 0 0), v), _, ?_, g, rfl, Rel_e (Rel_ly h k2) r1 ce ok⟩
        rw [e1, ob_i, om_i, ck_t (oR_rn p3), e2, ob_i, om_i, ck_t (oR_rn q3), k1, ob_i, k3.1]
end YK
end W_85
section W_86
-- 97zzu.pair
/-! the class and the reference: pair -/
theorem fpR_u {E : Nat → Nat → Bool} {C D i j a b a' b' : Nat} (h : fpR E C D i j a b) (h' : fpR E C D i j a' b') : a = a' ∧ b = b' := by
  obtain ⟨x1, x2, x3, x4, x5, x6⟩ := h
  obtain ⟨y1, y2, y3, y4, y5, y6⟩ := h'
  have n1 : ¬ lxl a b a' b' := fun w => y6 a b x1 x3 x4 w x5
  have n2 : ¬ lxl a' b' a b := fun w => x6 a' b' y1 y3 y4 w y5
  unfold lxl at n1 n2
  omega
theorem prR_u {E : Nat → Nat → Bool} {C D : Nat} : ∀ {k a b a' b' : Nat}, prR E C D k a b → prR E C D k a' b' → a = a' ∧ b = b'
  | 0, _, _, _, _, h, h' => fpR_u h h'
  | k + 1, _, _, _, _, ⟨c, d, h1, h2⟩, ⟨c', d', h1', h2'⟩ => by
    obtain ⟨e1, e2⟩ := prR_u h1 h1'
    subst e1 e2
    exact fpR_u h2 h2'
section YL
variable {pB : Prop} {F K W o o1 o2 r r1 r2 C D i j t t1 t2 : Nat} {u uc um uc' um' v w : rg_U} {x y z c : Int32}
theorem c_callAt {a : Nat} (hu : lyX uc u) (h : CG uc um o r) (ho : 116 ≤ o) (hr : runOK um r) (ha : a < Cr um r) : g_X1_read F (o + 24) (nI a) 0 u = some (nI (tC um r a)) := by
  have hC := hr.2.2.2.2.2.2.2.2.1
  have e3 : rF u (o + 24) 3 = nI (Cr um r) := (hu.2.2 _ (by omega)).trans h.1
  unfold g_X1_read g_X1_has
  rw [if_neg (nI_pos (by omega)), e3, if_neg (nI_ge ha (by omega)), if_neg (show ¬ (100 : Int32) ≤ nI a from nI_ge (a := a) (b := 100) (by omega) (by decide)), ob_i, if_neg one_n0, if_pos rfl, ck_t (inb_nI (by omega) (by decide)), rA_nI (by omega), hu.2.1 _ (by omega), show o + 24 + 1 = o + 25 from rfl, (h.2 a ha).1, (tC_ok hr ha).1]
theorem c_unlike {a n : Nat} (h1 : RR pB u um o1 r1) (h2 : RR pB u um o2 r2) (ht1 : t1 ≤ Tr um r1) (ht2 : t2 ≤ Tr um r2) (hT1 : Tr um r1 ≤ 3000) (hT2 : Tr um r2 ≤ 3000) (hF : 10000 < F) (ha : g_X9_firstPlaceOf y = nI a) (hn : g_X9_placesOf y = nI n) (han : a + n ≤ 40) : g_X9_unlike F (o1 + 12) (nI t1) (o2 + 12) (nI t2) y u = some (prB (rpm um r1 t1).1 (rpm um r2 t2).1 a n) := by
  have h := lp_up (body := fun (s : Int32 × Int32) => g_X9_unlike_l6 F (o1 + 12) (o2 + 12) (nI t1) (nI t2) y u s.1 s.2) (fun i => (prB (rpm um r1 t1).1 (rpm um r2 t2).1 a i, nI i)) n (prB (rpm um r1 t1).1 (rpm um r2 t2).1 a n) (fun i hi => by
    show g_X9_unlike_l6 F (o1 + 12) (o2 + 12) (nI t1) (nI t2) y u (prB (rpm um r1 t1).1 (rpm um r2 t2).1 a i) (nI i) = _
    obtain ⟨n1, b1, -, -, -, b5⟩ := c_read (F := F) (t := t1) (p := a + i) h1 ht1 (by omega) hT1 hF
    obtain ⟨n2, d1, d2, d3, -, -⟩ := c_read (F := F) (t := t2) (p := a + i) h2 ht2 (by omega) hT2 hF
    unfold g_X9_unlike_l6 g_X9_unlike_j70
    rw [hn, if_neg (nI_ge hi (by omega)), ha, nI_add, d1, ob_i, b1, ob_i, d2, ob_i, d3, ob_i, b5, ob_i, nI_1]
    show _ = some (Sum.inl (prB (rpm um r1 t1).1 (rpm um r2 t2).1 a i ||| (if (rpm um r1 t1).1 (a + i) = (rpm um r2 t2).1 (a + i) ∧ (rpm um r1 t1).1 (40 + (a + i)) = (rpm um r2 t2).1 (40 + (a + i)) then 0 else dx_shl 1 (nI i)), nI (i + 1)))
    by_cases w : (rpm um r1 t1).1 (a + i) = (rpm um r2 t2).1 (a + i) ∧ (rpm um r1 t1).1 (40 + (a + i)) = (rpm um r2 t2).1 (40 + (a + i))
    · rw [if_pos w, if_neg one_n0, if_pos w, Int32.or_zero]
    · rw [if_neg w, if_pos rfl, if_neg w]) (by
    show g_X9_unlike_l6 F (o1 + 12) (o2 + 12) (nI t1) (nI t2) y u _ (nI n) = _
    unfold g_X9_unlike_l6
    rw [hn, if_pos (nI_le (Nat.le_refl _) (by omega))]) F 0 (Nat.zero_le _) (by omega)
  unfold g_X9_unlike
  have h' : lp (fun (s : Int32 × Int32) => g_X9_unlike_l6 F (o1 + 12) (o2 + 12) (nI t1) (nI t2) y u s.1 s.2) F ((0 : Int32), (0 : Int32)) = some (prB (rpm um r1 t1).1 (rpm um r2 t2).1 a n) := h
  rw [h', ob_i]
theorem in3_iff : (¬ x < 0 ∧ x ≤ 3) ↔ ¬ g_X10_isIn x 0 3 = 0 := by
  rw [in_0, Decidable.not_not, Int32.lt_iff_toInt_lt, Int32.le_iff_toInt_le, Int32.le_iff_toInt_le, t_0]
  constructor
  · rintro ⟨a, b⟩; exact ⟨by omega, b⟩
  · rintro ⟨a, b⟩; exact ⟨by omega, b⟩
theorem is23 (h1 : ¬ c < 0) (h2 : c ≤ 3) (h3 : ¬ c = 0) (h4 : ¬ c = 1) : c = 2 ∨ c = 3 := by
  obtain ⟨k, hk, rfl⟩ := nI_of h1
  have : k ≤ 3 := by
    rcases Nat.lt_or_ge 3 k with w | w
    · exact absurd h2 (nI_ge (a := 3) (b := k) w hk)
    · exact w
  rcases (show k = 0 ∨ k = 1 ∨ k = 2 ∨ k = 3 by omega) with rfl | rfl | rfl | rfl
  · exact absurd rfl h3
  · exact absurd rfl h4
  · exact Or.inl rfl
  · exact Or.inr rfl
theorem sr_pair (hF : 10000 < F) : SB pB (g_X9_pair F x y z c) (g_X10_pair F x y z c) := fun uc um h => by
  obtain ⟨K, W, r1, r2, -⟩ := id h
  have h0 := Rel_zero h
  have m0 : okM (sF um 0 35 0) K W := okM_34 (by omega) r1
  have hK := r1.1.1.2.1
  have r20 : okX (sF uc 0 13 0) := by
    obtain ⟨_, _, _, w, -⟩ := id h0
    exact w
  unfold g_X9_pair
  rw [lt1_i]
  have bad : ∀ v, lyX (sF uc 0 13 0) v → ¬ prW um K x y z c → ∃ zm, g_X10_pair F x y z c um = some zm ∧ (-1000001 : Int32) = zm.1 ∧ RelC pB v zm.2 := fun v hv hb => by
    rcases m_pair (F := F) (x := x) (y := y) (z := z) (q := c) r1 hF with ⟨w, e, ok, ce, -⟩ | ⟨a1, a2, k, a, b, w, g1, g2, g3, g4, g5, g6, g7, -⟩
    · exact ⟨_, e, rfl, Rel_e (Rel_ly h0 hv) m0 ce ok⟩
    · exact absurd ⟨a1, a2, k, g1, g2, g3, g4, g5, g6, g7⟩ hb
  rcases Rel_at (F := F) (x := x) h0 m0 with ⟨n1, e1⟩ | ⟨p, p1, p2, p3, e1, p4, p5⟩
  · obtain ⟨zm, b1, b2, b3⟩ := bad _ ly_r (fun ⟨s1, _, _, w1, _, w3, _⟩ => n1 ⟨s1, w1, w3⟩)
    refine ⟨(-1000001, sF uc 0 13 0), zm, ?_, b1, b2, b3⟩
    rw [e1, ob_i, om_0]
    rcases Rel_at (F := F) (x := y) h0 m0 with ⟨n2, e2⟩ | ⟨s, q1, q2, q3, e2, q4, q5⟩
    · rw [e2, ob_i, om_0]
    · rw [e2, ob_i, om_i, ck_t (oR_rn q3)]
  rcases Rel_at (F := F) (x := y) h0 m0 with ⟨n2, e2⟩ | ⟨s, q1, q2, q3, e2, q4, q5⟩
  · obtain ⟨zm, b1, b2, b3⟩ := bad _ ly_r (fun ⟨_, s2, _, _, w2, _, w4, _⟩ => n2 ⟨s2, w2, w4⟩)
    refine ⟨(-1000001, sF uc 0 13 0), zm, ?_, b1, b2, b3⟩
    rw [e1, ob_i, om_i, ck_t (oR_rn p3), e2, ob_i, om_0]
  rw [e1, ob_i, om_i, ck_t (oR_rn p3), e2, ob_i, om_i, ck_t (oR_rn q3)]
  by_cases qc : g_X10_isIn c 0 3 = 0
  · obtain ⟨zm, b1, b2, b3⟩ := bad _ ly_r (fun ⟨_, _, _, _, _, _, _, _, _, w⟩ => w qc)
    refine ⟨(-1000001, sF uc 0 13 0), zm, ?_, b1, b2, b3⟩
    by_cases qd : c < 0
    · rw [if_pos qd]
    · rw [if_neg qd, if_neg (fun qe => in3_iff.mp ⟨qd, qe⟩ qc)]
  obtain ⟨i1, i2⟩ := in3_iff.mpr qc
  rw [if_neg i1, if_pos i2]
  have hC : Cr um p ≤ 100 := p5.2.2.2.2.2.2.2.2.1
  obtain ⟨v, k1, k2, k3⟩ := c_lay (F := F) (LK_i r20.2 p4.2.2.1 q4.2.2.1 oR_ge oR_ge p5.2.2.2.2.2.2.2.2.1 q5.2.2.2.2.2.2.2.2.1) p4.2.2.1.1 q4.2.2.1.1 hF
  have k3' : chS v (E35 um p s) (Cr um p) (Cr um s) (lL (E35 um p s) (Cr um p) (Cr um s) 0 0) := k3
  have hN : lL (E35 um p s) (Cr um p) (Cr um s) 0 0 ≤ 100 := Nat.le_trans lL_le hC
  rw [k1, ob_i]
  by_cases hz : ∃ k, k < lL (E35 um p s) (Cr um p) (Cr um s) 0 0 ∧ z = nI k
  · obtain ⟨k, hk, rfl⟩ := hz
    rcases m_pair (F := F) (x := x) (y := y) (z := nI k) (q := c) r1 hF with ⟨w, -, -, -, hn⟩ | ⟨s1, s2, k', a, b, w, g1, g2, g3, g4, g5, g6, g7, g8, g9, ok, c1, c2⟩
    · exact absurd (show prW um K x y (nI k) c from ⟨p, s, k, p1, q1, p2, q2, rfl, hk, qc⟩) hn
    · have t1 : s1 = p := xr_inj (act5 hK g1) p3 (g3.symm.trans p2)
      have t2 : s2 = s := xr_inj (act5 hK g2) q3 (g4.symm.trans q2)
      subst t1 t2
      have t3 : k' = k := nI_inj (by omega) (by omega) g5.symm
      subst t3
      obtain ⟨a', b', y1, y2, y3⟩ := k3'.2 k' hk
      obtain ⟨ya, yb⟩ := prR_u y3 g8
      subst ya yb
      obtain ⟨la, lb⟩ := prR_lt y3
      have hh : g_X0_has F (nI k') v = some 1 := by
        unfold g_X0_has
        rw [if_neg (nI_pos (by omega)), k3'.1, if_neg (nI_ge hk (by omega)), if_neg (show ¬ (100 : Int32) ≤ nI k' from nI_ge (a := k') (b := 100) (by omega) (by decide))]
      have d1 : g_X0_callOfOne F (nI k') v = some (nI a') := by
        unfold g_X0_callOfOne
        rw [hh, ob_i, if_neg one_n0, ck_t (inb_nI (by omega) (by decide)), rA_nI (by omega), y1]
      have d2 : g_X0_callOfOther F (nI k') v = some (nI b') := by
        unfold g_X0_callOfOther
        rw [hh, ob_i, if_neg one_n0, ck_t (inb_nI (by omega) (by decide)), rA_nI (by omega), y2]
      rw [hh, ob_i, if_neg one_n0]
      have hRv := Rel_ly h0 k2
      by_cases c0 : c = 0
      · subst c0
        rw [if_pos rfl, d1, ob_i]
        refine ⟨_, _, rfl, g9, ?_, Rel_e hRv m0 (c1 (by decide)) ok⟩
        show nI a' = prA um s1 s2 a' b' 0
        unfold prA
        rw [if_neg (by decide), if_pos rfl]
      rw [if_neg c0]
      by_cases c3 : c = 1
      · subst c3
        rw [if_pos rfl, d2, ob_i]
        refine ⟨_, _, rfl, g9, ?_, Rel_e hRv m0 (c1 (by decide)) ok⟩
        show nI b' = prA um s1 s2 a' b' 1
        unfold prA
        rw [if_neg (by decide), if_neg (by decide)]
      rw [if_neg c3]
      obtain ⟨fa, fn, f1, f2, f3, f4, f5⟩ : ∃ fa fn, g_X9_firstPlaceOf (c - 2) = nI fa ∧ g_X9_placesOf (c - 2) = nI fn ∧ fa + fn ≤ 40 ∧ prA um s1 s2 a' b' c = prB (rpm um s1 (tC um s1 a')).1 (rpm um s2 (tC um s2 b')).1 fa fn ∧ 2 ≤ c := by
        rcases is23 i1 i2 c0 c3 with rfl | rfl
        · exact ⟨0, 8, by decide, by decide, by omega, by unfold prA; rw [if_pos (by decide), if_pos rfl], by decide⟩
        · exact ⟨8, 32, by decide, by decide, by omega, by unfold prA; rw [if_pos (by decide), if_neg (by decide)], by decide⟩
      have T1 := tC_ok p5 la
      have T2 := tC_ok q5 lb
      have T1' : tC um s1 a' < Tr um s1 := T1.2
      have T2' : tC um s2 b' < Tr um s2 := T2.2
      have l1 : g_X1_read F (oR s1 + 24) (nI a') 0 v = some (nI (tC um s1 a')) := c_callAt k2 p4.2.2.1 oR_ge p5 la
      have l2 : g_X1_read F (oR s2 + 24) (nI b') 0 v = some (nI (tC um s2 b')) := c_callAt k2 q4.2.2.1 oR_ge q5 lb
      have u1 : g_X9_replay F (oR s1) (nI (tC um s1 a')) v = some (cSc v (oR s1) (nI (costM um s1 (tC um s1 a')))) := c_replay (F := F) (t := tC um s1 a') (Rel_run hRv m0 p1) p5 (Nat.le_of_lt T1') oR_ge hF
      have R1 : RelC pB (cSc v (oR s1) (nI (costM um s1 (tC um s1 a')))) (cS (sF um 0 35 0) s1 (nI (costM um s1 (tC um s1 a')))) := Rel_cS hRv m0 p1
      have m1 : okM (cS (sF um 0 35 0) s1 (nI (costM um s1 (tC um s1 a')))) K W := ⟨core_cS m0.1, simM_cS m0.2⟩
      have q1' : act (cS (sF um 0 35 0) s1 (nI (costM um s1 (tC um s1 a')))) K s2 := q1
      have u2' := c_replay (F := F) (t := tC um s2 b') (Rel_run R1 m1 q1') (m1.1.2.2.2.2.1 s2 q1') (Nat.le_of_lt T2') oR_ge hF
      have u2 : g_X9_replay F (oR s2) (nI (tC um s2 b')) (cSc v (oR s1) (nI (costM um s1 (tC um s1 a')))) = some (cSc (cSc v (oR s1) (nI (costM um s1 (tC um s1 a')))) (oR s2) (nI (costM um s2 (tC um s2 b')))) := u2'
      have R2 : RelC pB (cSc (cSc v (oR s1) (nI (costM um s1 (tC um s1 a')))) (oR s2) (nI (costM um s2 (tC um s2 b')))) (cS (cS (sF um 0 35 0) s1 (nI (costM um s1 (tC um s1 a')))) s2 (nI (costM um s2 (tC um s2 b')))) := Rel_cS R1 m1 q1'
      have m2 : okM (cS (cS (sF um 0 35 0) s1 (nI (costM um s1 (tC um s1 a')))) s2 (nI (costM um s2 (tC um s2 b')))) K W := ⟨core_cS m1.1, simM_cS m1.2⟩
      have p1' : act (cS (cS (sF um 0 35 0) s1 (nI (costM um s1 (tC um s1 a')))) s2 (nI (costM um s2 (tC um s2 b')))) K s1 := p1
      have q1'' : act (cS (cS (sF um 0 35 0) s1 (nI (costM um s1 (tC um s1 a')))) s2 (nI (costM um s2 (tC um s2 b')))) K s2 := q1
      have ul := c_unlike (F := F) (y := c - 2) (t1 := tC um s1 a') (t2 := tC um s2 b') (Rel_run R2 m2 p1') (Rel_run R2 m2 q1'') (Nat.le_of_lt T1') (Nat.le_of_lt T2') (Tr3 m2.1 p1') (Tr3 m2.1 q1'') hF f1 f2 f3
      rw [rpm_cS, rpm_cS, rpm_cS, rpm_cS] at ul
      rw [d1, ob_i, l1, ob_i, d2, ob_i, l2, ob_i, u1, ob_i, u2, ob_i, ul, ob_i]
      refine ⟨_, _, rfl, g9, ?_, Rel_e R2 m2 (c2 f5) ok⟩
      rw [f4]
      rfl
  · have e0 : g_X0_has F z v = some 0 := by
      unfold g_X0_has
      by_cases z0 : z < 0
      · rw [if_pos z0]
      · obtain ⟨k, hk, rfl⟩ := nI_of z0
        rw [if_neg z0, k3'.1, if_pos (nI_le (by
          have : ¬ k < lL (E35 um p s) (Cr um p) (Cr um s) 0 0 := fun w => hz ⟨k, w, rfl⟩
          omega) hk)]
    obtain ⟨zm, b1, b2, b3⟩ := bad v k2 (fun ⟨s1, s2, k, w1, w2, w3, w4, w5, w6, _⟩ => by
      have t1 := xr_inj p3 (act5 hK w1) (p2.symm.trans w3)
      have t2 := xr_inj q3 (act5 hK w2) (q2.symm.trans w4)
      subst t1 t2
      exact hz ⟨k, w6, w5⟩)
    exact ⟨(-1000001, v), zm, by rw [e0, ob_i, if_pos rfl], b1, b2, b3⟩
end YL
end W_86
section W_87
-- 97zzv.when
/-! the class and the reference: when -/
/-- x is the last by t with f -/
def LsT (f : Nat → Prop) (t : Nat) (x : Int32) : Prop := (x = -1 ∧ ∀ m, m ≤ t → ¬ f m) ∨ ∃ m, m ≤ t ∧ x = nI m ∧ f m ∧ ∀ m', m < m' → m' ≤ t → ¬ f m'
theorem LsT_u {f : Nat → Prop} {t : Nat} {x y : Int32} (h : LsT f t x) (h' : LsT f t y) : x = y := by
  rcases h with ⟨e, h⟩ | ⟨m, h1, e, h3, h4⟩
  · rcases h' with ⟨e', h'⟩ | ⟨m', g1, e', g3, g4⟩
    · rw [e, e']
    · exact absurd g3 (h m' g1)
  · rcases h' with ⟨e', h'⟩ | ⟨m', g1, e', g3, g4⟩
    · exact absurd h3 (h' m h1)
    · have : m = m' := by
        rcases Nat.lt_trichotomy m m' with y | y | y
        · exact absurd g3 (h4 m' y g1)
        · exact y
        · exact absurd h3 (g4 m y h1)
      rw [e, e', this]
theorem LsT_ext {f : Nat → Prop} {b b' : Nat} {x : Int32} (h : LsT f b' x) (hb : b' ≤ b) (hn : ∀ m, b' < m → m ≤ b → ¬ f m) : LsT f b x := by
  rcases h with ⟨e, h⟩ | ⟨m, h1, e, h3, h4⟩
  · refine Or.inl ⟨e, fun m hm => ?_⟩
    rcases Nat.lt_or_ge b' m with y | y
    · exact hn m y hm
    · exact h m y
  · refine Or.inr ⟨m, by omega, e, h3, fun m' a1 a2 => ?_⟩
    rcases Nat.lt_or_ge b' m' with y | y
    · exact hn m' y a2
    · exact h4 m' a1 y
theorem LsT_low {f : Nat → Prop} {b b' : Nat} {x : Int32} (h : LsT f b x) (hb : b' ≤ b) (hn : ∀ m, b' < m → m ≤ b → ¬ f m) : LsT f b' x := by
  rcases h with ⟨e, h⟩ | ⟨m, h1, e, h3, h4⟩
  · exact Or.inl ⟨e, fun m hm => h m (by omega)⟩
  · refine Or.inr ⟨m, ?_, e, h3, fun m' a1 a2 => h4 m' a1 (by omega)⟩
    rcases Nat.lt_or_ge b' m with y | y
    · exact absurd h3 (hn m y h1)
    · exact y
theorem LsT_c {f g : Nat → Prop} {t : Nat} {x : Int32} (h : LsT f t x) (e : ∀ m, m ≤ t → (f m ↔ g m)) : LsT g t x := by
  rcases h with ⟨e1, h⟩ | ⟨m, h1, e1, h3, h4⟩
  · exact Or.inl ⟨e1, fun m hm w => h m hm ((e m hm).mpr w)⟩
  · exact Or.inr ⟨m, h1, e1, (e m h1).mp h3, fun m' a1 a2 w => h4 m' a1 a2 ((e m' a2).mpr w)⟩
theorem LsT_nlt {f : Nat → Prop} {t : Nat} {x : Int32} (h : LsT f t x) (ht : t ≤ 3000) : ¬ nI t < x := by
  rcases h with ⟨e, -⟩ | ⟨m, h1, e, -⟩
  · rw [e, Int32.lt_iff_toInt_lt, nI_toInt (by omega), show (-1 : Int32).toInt = -1 from rfl]
    omega
  · rw [e]; exact nI_nlt h1 (by omega)
theorem pred_lt {a m : Nat} (h : a ≤ m) (hm : m ≤ 3000) : nI a - 1 < nI m := by
  rcases Nat.eq_zero_or_pos a with z | z
  · subst z
    rw [Int32.lt_iff_toInt_lt, nI_toInt (by omega), show (nI 0 - 1 : Int32).toInt = -1 from rfl]
    omega
  · rw [show nI a - 1 = nI (a - 1) from nI_sub (a := a) (b := 1) z]
    exact nI_lt (by omega) (by omega)
theorem hdA_ls {f : Nat → Prop} [∀ m, Decidable (f m)] {a : Nat} : ∀ k, (hdA f a k = -1 ∧ ∀ m, m < k → ¬ f (a + m)) ∨ ∃ m, m < k ∧ hdA f a k = nI (a + m) ∧ f (a + m) ∧ ∀ m', m < m' → m' < k → ¬ f (a + m')
  | 0 => Or.inl ⟨rfl, fun m hm => by omega⟩
  | k + 1 => by
    by_cases q : f (a + k)
    · exact Or.inr ⟨k, by omega, if_pos q, q, fun m' a1 a2 => by omega⟩
    · have e : hdA f a (k + 1) = hdA f a k := if_neg q
      rw [e]
      rcases hdA_ls (f := f) (a := a) k with ⟨h1, h2⟩ | ⟨m, h1, h2, h3, h4⟩
      · refine Or.inl ⟨h1, fun m hm => ?_⟩
        by_cases z : m = k
        · rw [z]; exact q
        · exact h2 m (by omega)
      · refine Or.inr ⟨m, by omega, h2, h3, fun m' a1 a2 => ?_⟩
        by_cases z : m' = k
        · rw [z]; exact q
        · exact h4 m' a1 (by omega)
/-- the value asked for, in the reference -/
abbrev vlF (u : rg_U) (r p : Nat) (s n : Int32) (m : Nat) : Prop := (rpm u r m).1 p = s ∧ (rpm u r m).1 (40 + p) = n
theorem whA_y {u : rg_U} {r p f b a : Nat} {s n : Int32} (ea : hk (Hm u r) (b / Ur u r) * Ur u r = a) (h : ¬ hdA (vlF u r p s n) a (b - a + 1) = -1) : whA u r p s n (f + 1) b = (hdA (vlF u r p s n) a (b - a + 1), b - a) := by
  subst ea
  show (if hdA (vlF u r p s n) _ _ = -1 then _ else _) = _
  rw [if_neg h]
theorem whA_0 {u : rg_U} {r p f b a : Nat} {s n : Int32} (ea : hk (Hm u r) (b / Ur u r) * Ur u r = a) (h : hdA (vlF u r p s n) a (b - a + 1) = -1) (h0 : a = 0) : whA u r p s n (f + 1) b = (-1, b) := by
  subst ea
  show (if hdA (vlF u r p s n) _ _ = -1 then (if _ then _ else _) else _) = _
  rw [if_pos h, if_pos h0]
theorem whA_n {u : rg_U} {r p f b a : Nat} {s n : Int32} (ea : hk (Hm u r) (b / Ur u r) * Ur u r = a) (h : hdA (vlF u r p s n) a (b - a + 1) = -1) (h0 : ¬ a = 0) : whA u r p s n (f + 1) b = ((whA u r p s n f (a - 1)).1, (b - a) + (whA u r p s n f (a - 1)).2) := by
  subst ea
  show (if hdA (vlF u r p s n) _ _ = -1 then (if _ then _ else _) else _) = _
  rw [if_pos h, if_neg h0]
theorem whA_ls {u : rg_U} {r p : Nat} {s n : Int32} : ∀ (f b : Nat), b < f → b ≤ 3000 → LsT (vlF u r p s n) b (whA u r p s n f b).1
  | 0, b, h, _ => by omega
  | f + 1, b, h, h3 => by
    have hle : hk (Hm u r) (b / Ur u r) * Ur u r ≤ b := Nat.le_trans (Nat.mul_le_mul_right _ (hk_le _ _)) (Nat.div_mul_le_self b (Ur u r))
    obtain ⟨a, ea⟩ : ∃ a, hk (Hm u r) (b / Ur u r) * Ur u r = a := ⟨_, rfl⟩
    rw [ea] at hle
    rcases hdA_ls (f := vlF u r p s n) (a := a) (b - a + 1) with ⟨h1, h2⟩ | ⟨m, h1, h2, h4, h5⟩
    · have hn : ∀ m, a ≤ m → m ≤ b → ¬ vlF u r p s n m := fun m x1 x2 => by
        have := h2 (m - a) (by omega)
        rwa [show a + (m - a) = m by omega] at this
      by_cases z : a = 0
      · rw [whA_0 ea h1 z]
        exact Or.inl ⟨rfl, fun m hm => hn m (by omega) hm⟩
      · rw [whA_n ea h1 z]
        exact LsT_ext (whA_ls f (a - 1) (by omega) (by omega)) (by omega) (fun m x1 x2 => hn m (by omega) x2)
    · rw [whA_y ea (by rw [h2]; exact nI_m1 (by omega))]
      refine Or.inr ⟨a + m, by omega, h2, h4, fun m' x1 x2 => ?_⟩
      have := h5 (m' - a) (by omega) (by omega)
      rwa [show a + (m' - a) = m' by omega] at this
/-- the value asked for, by the puts -/
def hvF (u : rg_U) (q p N : Nat) (s n : Int32) (m : Nat) : Prop := vS (u.2.1 (q + 3)) 0 (lat (u.2.1 (q + 2)) p (cP (u.2.1 (q + 1)) m N)) = s ∧ vS (u.2.1 (q + 4)) 0 (lat (u.2.1 (q + 2)) p (cP (u.2.1 (q + 1)) m N)) = n
section YM
variable {pB : Prop} {F K W o r t p q T N : Nat} {u uc um : rg_U} {x y z s n v : Int32}
theorem c_hadl (hP : PI u q T N) (hp : p < 40) : ∀ (G k b l : Nat), k + 2 < G → k ≤ N → k ≤ l → l ≤ N → b ≤ 3000 → cP (u.2.1 (q + 1)) b N ≤ k → ∃ y x, lp (fun (z : Int32 × Int32 × Int32) => g_X6_hadBy_l16 F q s n u z.1 z.2.1 z.2.2) G (nI b, lat (u.2.1 (q + 2)) p k, nI l) = some y ∧ os y (fun r => some r) (fun _ => some (-1 : Int32)) = some x ∧ LsT (hvF u q p N s n) b x
  | 0, k, b, l, hG, _, _, _, _, _ => by omega
  | G + 1, k, b, l, hG, hk, hkl, hl, hb, hc => by
    obtain ⟨hN, h8, hT, hm, hlt, hx⟩ := id hP
    have hend : ∀ (c y l' : Int32), c < 0 → g_X6_hadBy_l16 F q s n u c y l' = some (.inr (Sum.inr ())) := fun c y l' h => by
      unfold g_X6_hadBy_l16
      by_cases w : l' < 0
      · rw [if_pos w]
      · rw [if_neg w, if_pos h]
    have hst : ∀ {c y l' : Int32}, c < 0 → g_X6_hadBy_l16 F q s n u (nI b) (lat (u.2.1 (q + 2)) p k) (nI l) = some (.inl (c, y, l')) → lp (fun (z : Int32 × Int32 × Int32) => g_X6_hadBy_l16 F q s n u z.1 z.2.1 z.2.2) (G + 1) (nI b, lat (u.2.1 (q + 2)) p k, nI l) = some (Sum.inr ()) := fun {c y l'} h e => by
      rw [lp_l (body := fun (z : Int32 × Int32 × Int32) => g_X6_hadBy_l16 F q s n u z.1 z.2.1 z.2.2) (s := (nI b, lat (u.2.1 (q + 2)) p k, nI l)) e]
      match G, hG with
      | 0, hG => omega
      | G + 1, hG => exact lp_r (hend c y l' h)
    rcases lat_pt (pp := u.2.1 (q + 2)) (p := p) k with e | ⟨a, ha, e⟩
    · have hno := lat_none (pp := u.2.1 (q + 2)) (p := p) k (by omega) e
      have hlm : ∀ m, m ≤ b → lat (u.2.1 (q + 2)) p (cP (u.2.1 (q + 1)) m N) = -1 := fun m hm' => by
        have c1 := cP_mono (pt := u.2.1 (q + 1)) hm' N
        rw [← lat_skip (pp := u.2.1 (q + 2)) (p := p) (M := cP (u.2.1 (q + 1)) m N) k (by omega) (fun i _ hi => hno i hi), e]
      by_cases w : vS (u.2.1 (q + 3)) 0 (-1) = s ∧ vS (u.2.1 (q + 4)) 0 (-1) = n
      · have hb1 : g_X6_hadBy_l16 F q s n u (nI b) (lat (u.2.1 (q + 2)) p k) (nI l) = some (.inr (Sum.inl (nI b))) := by
          unfold g_X6_hadBy_l16
          rw [if_neg (nI_pos (by omega)), if_neg (nI_pos (by omega)), e, x6_time hN h8 (Or.inl rfl), ob_i, vS_0, if_neg (nI_pos (by omega)), x6_value hN h8 (Or.inl rfl), ob_i, if_pos w, if_neg one_n0]
        refine ⟨_, _, lp_r hb1, rfl, Or.inr ⟨b, Nat.le_refl _, rfl, ?_, fun m' x1 x2 => by omega⟩⟩
        unfold hvF
        rw [hlm b (Nat.le_refl _)]
        exact w
      · have hb1 : g_X6_hadBy_l16 F q s n u (nI b) (lat (u.2.1 (q + 2)) p k) (nI l) = some (.inl ((0 : Int32) - 1, -1, nI l + (-1))) := by
          unfold g_X6_hadBy_l16 g_X6_hadBy_j62
          rw [if_neg (nI_pos (by omega)), if_neg (nI_pos (by omega)), e, x6_time hN h8 (Or.inl rfl), ob_i, vS_0, if_neg (nI_pos (by omega)), x6_value hN h8 (Or.inl rfl), ob_i, if_neg w, if_pos rfl, ob_i, x6_ahead hN h8 (Or.inl rfl), ob_i, vS_0]
        refine ⟨_, _, hst (by decide) hb1, rfl, Or.inl ⟨rfl, fun m hm' w2 => w ?_⟩⟩
        unfold hvF at w2
        rw [hlm m hm'] at w2
        exact w2
    · obtain ⟨l1, l2, l3⟩ := lat_some (pp := u.2.1 (q + 2)) (p := p) k (by omega) e (by omega)
      obtain ⟨τ, p', d1, d2, d3, d4, d5, -⟩ := hx a (by omega)
      have ep : p = p' := (nI_inj (by omega) (by omega) (d4.symm.trans l2)).symm
      subst ep
      have hti : ∀ m, a < cP (u.2.1 (q + 1)) m N ↔ τ ≤ m := fun m => by
        rw [cP_iff N hm a (by omega), d3, tnn (by omega)]
      have hlm : ∀ m, τ ≤ m → m ≤ b → lat (u.2.1 (q + 2)) p (cP (u.2.1 (q + 1)) m N) = nI a := fun m h1 h2 => by
        have c1 := cP_mono (pt := u.2.1 (q + 1)) h2 N
        exact lat_at ((hti m).mpr h1) l2 (fun i i1 i2 => l3 i i1 (by omega))
      have hap : isPt N (nI a) := Or.inr ⟨a, by omega, rfl⟩
      have ele : nI l + (-1) = nI (l - 1) := by
        have := nI_dec (k := l - 1)
        rwa [show l - 1 + 1 = l by omega] at this
      by_cases w : b < τ
      · have hb1 : g_X6_hadBy_l16 F q s n u (nI b) (lat (u.2.1 (q + 2)) p k) (nI l) = some (.inl (nI b, lat (u.2.1 (q + 2)) p a, nI (l - 1))) := by
          unfold g_X6_hadBy_l16 g_X6_hadBy_j62
          rw [if_neg (nI_pos (by omega)), if_neg (nI_pos (by omega)), e, x6_time hN h8 hap, ob_i, vS_n (by omega), d3, if_pos (nI_lt w (by omega)), x6_ahead hN h8 hap, ob_i, vS_n (by omega), d5, ele]
        obtain ⟨y, x, g1, g2, g3⟩ := c_hadl hP hp G a b (l - 1) (by omega) (by omega) (by omega) (by omega) hb (by
          have := hti b
          omega)
        exact ⟨y, x, (lp_l (body := fun (z : Int32 × Int32 × Int32) => g_X6_hadBy_l16 F q s n u z.1 z.2.1 z.2.2) (s := (nI b, lat (u.2.1 (q + 2)) p k, nI l)) hb1).trans g1, g2, g3⟩
      · by_cases w2 : vS (u.2.1 (q + 3)) 0 (nI a) = s ∧ vS (u.2.1 (q + 4)) 0 (nI a) = n
        · have hb1 : g_X6_hadBy_l16 F q s n u (nI b) (lat (u.2.1 (q + 2)) p k) (nI l) = some (.inr (Sum.inl (nI b))) := by
            unfold g_X6_hadBy_l16
            rw [if_neg (nI_pos (by omega)), if_neg (nI_pos (by omega)), e, x6_time hN h8 hap, ob_i, vS_n (by omega), d3, if_neg (nI_nlt (by omega) (by omega)), x6_value hN h8 hap, ob_i, if_pos w2, if_neg one_n0]
          refine ⟨_, _, lp_r hb1, rfl, Or.inr ⟨b, Nat.le_refl _, rfl, ?_, fun m' x1 x2 => by omega⟩⟩
          unfold hvF
          rw [hlm b (by omega) (Nat.le_refl _)]
          exact w2
        · have hb1 : g_X6_hadBy_l16 F q s n u (nI b) (lat (u.2.1 (q + 2)) p k) (nI l) = some (.inl (nI τ - 1, lat (u.2.1 (q + 2)) p a, nI (l - 1))) := by
            unfold g_X6_hadBy_l16 g_X6_hadBy_j62
            rw [if_neg (nI_pos (by omega)), if_neg (nI_pos (by omega)), e, x6_time hN h8 hap, ob_i, vS_n (by omega), d3, if_neg (nI_nlt (by omega) (by omega)), x6_value hN h8 hap, ob_i, if_neg w2, if_pos rfl, ob_i, x6_ahead hN h8 hap, ob_i, vS_n (by omega), d5, ele]
          have hno : ∀ m, τ ≤ m → m ≤ b → ¬ hvF u q p N s n m := fun m h1 h2 w3 => by
            unfold hvF at w3
            rw [hlm m h1 h2] at w3
            exact w2 w3
          by_cases w4 : τ = 0
          · refine ⟨_, _, hst (c := nI τ - 1) (by rw [w4]; decide) hb1, rfl, Or.inl ⟨rfl, fun m hm' => hno m (by omega) hm'⟩⟩
          · rw [show nI τ - 1 = nI (τ - 1) from nI_sub (a := τ) (b := 1) (by omega)] at hb1
            obtain ⟨y, x, g1, g2, g3⟩ := c_hadl hP hp G a (τ - 1) (l - 1) (by omega) (by omega) (by omega) (by omega) (by omega) (by
              have := hti (τ - 1)
              omega)
            exact ⟨y, x, (lp_l (body := fun (z : Int32 × Int32 × Int32) => g_X6_hadBy_l16 F q s n u z.1 z.2.1 z.2.2) (s := (nI b, lat (u.2.1 (q + 2)) p k, nI l)) hb1).trans g1, g2, LsT_ext g3 (by omega) (fun m x1 x2 => hno m (by omega) x2)⟩
theorem c_hadBy (hP : PI u q T N) (hp : p < 40) (ht : t ≤ 3000) (hF : 10000 < F) : ∃ x, g_X6_hadBy F q (nI t) (nI p) s n u = some x ∧ LsT (hvF u q p N s n) t x := by
  obtain ⟨hN, h8, hT, hm, hlt, hx⟩ := id hP
  obtain ⟨y, x, g1, g2, g3⟩ := c_hadl (F := F) (s := s) (n := n) hP hp F N t N (by omega) (Nat.le_refl _) (Nat.le_refl _) (Nat.le_refl _) ht (cP_le N)
  refine ⟨x, ?_, g3⟩
  unfold g_X6_hadBy
  rw [x6_latest hp, ob_i, hlt p hp, hN, g1, ob_i]
  exact g2
/-- how many steps it costs to find -/
theorem c_steps {n' : Nat} {f : Nat → Nat} (hn : rF u o 1 = nI n') (h64 : n' ≤ 64) (ha : ∀ i, i < n' → u.2.1 (o + 1) i = nI (f i * Ur um r)) (hl : HL f n' (fun k => k ≤ 3000 ∧ ¬ Hm um r k = 0)) (hU : 0 < Ur um r) (h0 : ¬ Hm um r 0 = 0) (hT : ∀ i, i < n' → f i * Ur um r ≤ 3000) (hF : 10000 < F) : ∀ (G i b c fu : Nat), i < G → i ≤ n' → b ≤ 3000 → b < fu → (∀ j, i ≤ j → j < n' → b < f j * Ur um r) → LsT (vlF um r p s n) b x → lp (fun (z : Int32 × Int32 × Int32) => g_X2_stepsToFind_l13 F o x u z.1 z.2.1 z.2.2) G (nI c, nI b, nI i + (-1)) = some (nI (c + (whA um r p s n fu b).2))
  | 0, i, b, c, fu, hG, _, _, _, _, _ => by omega
  | G + 1, 0, b, c, fu, hG, h1, h2, h3, h4, h5 => by
    obtain ⟨z, hz, ez⟩ := (hl.2 0).mp ⟨by omega, h0⟩
    have f0 : f 0 = 0 := by have := HL_le hl (Nat.zero_le z) hz; omega
    have := h4 0 (Nat.le_refl _) (by omega)
    rw [f0] at this
    omega
  | G + 1, i + 1, b, c, 0, hG, h1, h2, h3, h4, h5 => by omega
  | G + 1, i + 1, b, c, fu + 1, hG, h1, h2, h3, h4, h5 => by
    have hti := hT i (by omega)
    have e1 : g_X2_timeOf F o (nI i) u = some (nI (f i * Ur um r)) := by rw [x2_time hn h64 (by omega), ha i (by omega)]
    rw [nI_dec]
    by_cases w : b < f i * Ur um r
    · have hb : g_X2_stepsToFind_l13 F o x u (nI c) (nI b) (nI i) = some (.inl (nI c, nI b, nI i + (-1))) := by
        unfold g_X2_stepsToFind_l13 g_X2_stepsToFind_j57
        rw [if_neg (nI_pos (by omega)), if_neg (LsT_nlt h5 h2), e1, ob_i, if_pos (nI_lt w (by omega))]
      rw [lp_l (body := fun (z : Int32 × Int32 × Int32) => g_X2_stepsToFind_l13 F o x u z.1 z.2.1 z.2.2) (s := (nI c, nI b, nI i)) hb]
      refine c_steps hn h64 ha hl hU h0 hT hF G i b c (fu + 1) (by omega) (by omega) h2 h3 (fun j j1 j2 => ?_) h5
      by_cases z : j = i
      · rw [z]; exact w
      · exact h4 j (by omega) j2
    · obtain ⟨a, eA⟩ : ∃ a, f i * Ur um r = a := ⟨_, rfl⟩
      have ea : hk (Hm um r) (b / Ur um r) * Ur um r = a := by
        have hle : f i ≤ b / Ur um r := (Nat.le_div_iff_mul_le hU).mpr (by omega)
        obtain ⟨b1, b2⟩ := (hl.2 (f i)).mpr ⟨i, by omega, rfl⟩
        rw [hk_is (b / Ur um r) hle (Or.inr b2) (fun j c1 c2 => Classical.byContradiction fun c3 => ?_)]
        · exact eA
        · have hj3 : j ≤ 3000 := by have := Nat.div_le_self b (Ur um r); omega
          obtain ⟨a', ha', ea'⟩ := (hl.2 j).mp ⟨hj3, c3⟩
          have hai : i + 1 ≤ a' := by
            rcases Nat.lt_or_ge a' (i + 1) with y | y
            · have := HL_le hl (show a' ≤ i by omega) (by omega)
              omega
            · exact y
          have h6 : j * Ur um r ≤ b := (Nat.le_div_iff_mul_le hU).mp c2
          have h7 := h4 a' hai ha'
          rw [ea'] at h7
          omega
      rw [eA] at hti w e1
      have hb : g_X2_stepsToFind_l13 F o x u (nI c) (nI b) (nI i) = some (.inl (nI (c + (b - a)), nI a - 1, nI i + (-1))) := by
        unfold g_X2_stepsToFind_l13 g_X2_stepsToFind_j57
        rw [if_neg (nI_pos (by omega)), if_neg (LsT_nlt h5 h2), e1, ob_i, if_neg (nI_nlt (by omega) (by omega)), ob_i, ob_i, nI_sub (show a ≤ b by omega), nI_add]
      rw [lp_l (body := fun (z : Int32 × Int32 × Int32) => g_X2_stepsToFind_l13 F o x u z.1 z.2.1 z.2.2) (s := (nI c, nI b, nI i)) hb]
      have stop : ∀ (l4 l5 : Int32), (l5 < 0 ∨ l4 < x) → lp (fun (z : Int32 × Int32 × Int32) => g_X2_stepsToFind_l13 F o x u z.1 z.2.1 z.2.2) G (nI (c + (b - a)), l4, l5) = some (nI (c + (b - a))) := fun l4 l5 h => by
        have hb2 : g_X2_stepsToFind_l13 F o x u (nI (c + (b - a))) l4 l5 = some (.inr (nI (c + (b - a)))) := by
          unfold g_X2_stepsToFind_l13
          by_cases w1 : l5 < 0
          · rw [if_pos w1]
          · rcases h with h | h
            · exact absurd h w1
            · rw [if_neg w1, if_pos h]
        match G, hG with
        | 0, hG => omega
        | G + 1, hG => exact lp_r hb2
      rcases hdA_ls (f := vlF um r p s n) (a := a) (b - a + 1) with ⟨g1, g2⟩ | ⟨m, g1, g2, g3, g4⟩
      · have hno : ∀ m, a ≤ m → m ≤ b → ¬ vlF um r p s n m := fun m x1 x2 => by
          have := g2 (m - a) (by omega)
          rwa [show a + (m - a) = m by omega] at this
        by_cases z : a = 0
        · have hi0 : i = 0 := by
            rcases Nat.eq_zero_or_pos i with y | y
            · exact y
            · have h6 := hl.1 0 i y (by omega)
              have h7 : 1 * Ur um r ≤ f i * Ur um r := Nat.mul_le_mul_right _ (by omega)
              omega
          rw [whA_0 ea g1 z, stop _ _ (Or.inl (by rw [hi0]; decide))]
          dsimp only
          rw [z, Nat.sub_zero]
        · rw [whA_n ea g1 z, show nI a - 1 = nI (a - 1) from nI_sub (a := a) (b := 1) (by omega), c_steps hn h64 ha hl hU h0 hT hF G i (a - 1) (c + (b - a)) fu (by omega) (by omega) (by omega) (by omega) (fun j j1 j2 => ?_) (LsT_low h5 (by omega) (fun m x1 x2 => hno m (by omega) x2))]
          · dsimp only
            rw [Nat.add_assoc]
          · have h6 : f i * Ur um r ≤ f j * Ur um r := Nat.mul_le_mul_right _ (HL_le hl j1 j2)
            omega
      · have hx : x = nI (a + m) := LsT_u h5 (Or.inr ⟨a + m, by omega, rfl, g3, fun m' x1 x2 => by
          have := g4 (m' - a) (by omega) (by omega)
          rwa [show a + (m' - a) = m' by omega] at this⟩)
        rw [whA_y ea (by rw [g2]; exact nI_m1 (by omega)), stop _ _ (Or.inr (by rw [hx]; exact pred_lt (by omega) (by omega)))]
theorem c_when (hR : RR pB uc um o r) (hro : runOK um r) (ht : t ≤ Tr um r) (hp : p < 40) (hT3 : Tr um r ≤ 3000) (hF : 10000 < F) : g_X6_hadBy F (o + 12) (nI t) (nI p) s n uc = some (whA um r p s n 3001 t).1 ∧ g_X2_stepsToFind F (o + 28) (whA um r p s n 3001 t).1 (nI t) uc = some (nI (whA um r p s n 3001 t).2) := by
  obtain ⟨N, hS⟩ := hR.2.2.2.2.2.2
  have hP := hS.2.2.2.1
  obtain ⟨x, g1, g2⟩ := c_hadBy (F := F) (s := s) (n := n) hP hp (show t ≤ 3000 by omega) hF
  have g3 : LsT (vlF um r p s n) t x := LsT_c g2 (fun m hm => by
    have w := (hS.2.2.2.2 m (by omega)).1 p hp
    dsimp only at w
    rw [show o + 13 = o + 12 + 1 from rfl] at w
    unfold hvF vlF
    rw [w.1, w.2.1])
  have hls := whA_ls (u := um) (r := r) (p := p) (s := s) (n := n) 3001 t (by omega) (by omega)
  have ex := LsT_u g3 hls
  refine ⟨by rw [g1, ex], ?_⟩
  obtain ⟨-, -, n', f, hn, h64, ha, hl⟩ := hR.2.2.2.1
  have hH := hro.2.2.2.2.2.2.2.1
  have h := c_steps (F := F) (c := 0) (fu := 3001) (p := p) (s := s) (n := n) hn h64 ha hl hro.2.2.2.2.2.1.1 (by rw [hH.1]; decide) (fun i hi => by
    obtain ⟨a1, a2⟩ := (hl.2 (f i)).mpr ⟨i, hi, rfl⟩
    rcases hH.2 (f i) a1 with w | w
    · exact absurd w a2
    · have := w.2
      omega) hF F n' t (by omega) (Nat.le_refl _) (by omega) (by omega) (fun j j1 j2 => by omega) hls
  unfold g_X2_stepsToFind
  rw [hn, show nI n' - 1 = nI n' + (-1) from Int32.sub_eq_add_neg _ _]
  rw [show nI 0 = (0 : Int32) from rfl, Nat.zero_add] at h
  rw [h, ob_i]
theorem sr_when (hF : 10000 < F) : SB pB (g_X9_when F x y s n) (g_X10_when F x y s n) := fun uc um h => by
  obtain ⟨K, W, r1, -⟩ := id h
  have h0 := Rel_zero h
  have m0 : okM (sF um 0 35 0) K W := okM_34 (by omega) r1
  have eA : aR (sF um 0 35 0) = aR um := rfl
  unfold g_X9_when
  rw [lt1_i]
  rcases Rel_ask (F := F) h0 m0 with ⟨e5, en⟩ | ⟨ea, e5, h5, en, hR⟩
  · rw [en, ob_i, om_0]
    rcases m_when (F := F) (x := x) (y := y) (s := s) (n := n) r1 hF with ⟨-, q, -⟩ | ⟨t, p, u', -, w, -⟩
    · exact ⟨_, _, rfl, q, rfl, h0⟩
    · rw [show um.2.1 5 (aR um) = 0 from e5] at w
      exact absurd w (by decide)
  · have hro := m0.1.2.2.2.2.1 _ ea
    have hT3 := hro.2.2.2.2.2.2.1.1.2.2.2.1
    rw [eA] at *
    obtain ⟨N, hS⟩ := hR.2.2.2.2.2.2
    rw [en, ob_i, om_i, ck_t (oR_rn h5), cl_place, cl_value]
    have bad : ¬ (isTm um x ∧ ¬ g_X10_isPlace y = 0 ∧ ¬ g_X10_isValue s n = 0) → ∃ zm, g_X10_when F x y s n um = some zm ∧ (-2 : Int32) = zm.1 ∧ RelC pB (sF uc 0 13 0) zm.2 := fun hb => by
      rcases m_when (F := F) (x := x) (y := y) (s := s) (n := n) r1 hF with ⟨-, q, -⟩ | ⟨t, p, u', -, w1, w2, w3, w4, w5, w6, -⟩
      · exact ⟨_, q, rfl, h0⟩
      · exact absurd ⟨⟨w1, t, w2, w3⟩, by rw [w5]; exact in_nI (a := 0) (b := 39) (by omega) (by omega) (by decide), w6⟩ hb
    rcases x7_hasI (F := F) (x := x) hS.1 hT3 with ⟨q1, q2⟩ | ⟨t, ht, rfl, q1⟩
    · rw [q1, ob_i, if_pos rfl]
      obtain ⟨zm, b1, b2, b3⟩ := bad (fun w => q2 w.1.2)
      exact ⟨_, zm, rfl, b1, b2, b3⟩
    rw [q1, ob_i, if_neg (by decide)]
    by_cases q2 : g_X10_isPlace y = 0
    · rw [if_pos q2]
      obtain ⟨zm, b1, b2, b3⟩ := bad (fun w => w.2.1 q2)
      exact ⟨_, zm, rfl, b1, b2, b3⟩
    rw [if_neg q2]
    by_cases q3 : g_X10_isValue s n = 0
    · rw [if_pos q3]
      obtain ⟨zm, b1, b2, b3⟩ := bad (fun w => w.2.2 q3)
      exact ⟨_, zm, rfl, b1, b2, b3⟩
    rw [if_neg q3]
    rcases m_when (F := F) (x := nI t) (y := y) (s := s) (n := n) r1 hF with ⟨w, -⟩ | ⟨t2, p, u', w0, w1, w2, w3, w4, w5, w6, q, hok, hce⟩
    · exact absurd ⟨⟨e5, t, ht, rfl⟩, q2, q3⟩ w
    · have hT3' : Tr um (aR um) ≤ 3000 := hT3
      have ht' : t ≤ Tr um (aR um) := ht
      have et : t2 = t := nI_inj (by omega) (by omega) w3.symm
      subst et
      have ho := oR_ge (r := aR um)
      obtain ⟨c1, c2⟩ := c_when (F := F) (t := t2) (p := p) (s := s) (n := n) hR hro ht w4 hT3 hF
      rw [whA_s] at c1 c2
      have cnt : ∀ v, g_X9_count F (oR (aR um)) v (sF uc 0 13 0) = some (cSc (sF uc 0 13 0) (oR (aR um)) v) := fun v => by
        unfold g_X9_count
        rw [lt1_i, lt1_i, show rF (sF (sF uc 0 13 0) (oR (aR um)) 12 (rF (sF uc 0 13 0) (oR (aR um)) 12 + v)) 0 13 = rF (sF uc 0 13 0) 0 13 from sF_n (by omega)]
      rw [w5] at q
      rw [w5, c1, ob_i, c2, ob_i, cnt, ob_i]
      exact ⟨_, _, rfl, q, rfl, Rel_e (Rel_cS h0 m0 ea) ⟨core_cS m0.1, simM_cS m0.2⟩ hce hok⟩
end YM
end W_87
