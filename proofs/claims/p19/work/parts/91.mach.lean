theorem one_n0 : ¬ (1 : Int32) = 0 := by decide
theorem m_reckons {F o k a b c : Nat} {u : rg_U} {m : Row} (hk : 4 ≤ k ∧ k ≤ 9) (ha : a < 40) (hb : b < 40) (hc : c < 40) : g_X10_reckons F o 134 (nI k) (nI a) (nI b) (nI c) (sT u o m 0 (-1) (-1)) = some (sTp u o (mreck m k a b c)) := by
  unfold g_X10_reckons
  rw [m_isOf hb, ob_i, m_isOf hc, ob_i]
  unfold g_X10_reckons_j20
  rw [m_traps, ob_i, c40, c40, ck_t (inb_nI (by omega) (by decide)), ck_t (inb_nI (by omega) (by decide)), rA_sT, rA_sT, tnn (by omega), tnn (by omega)]
  unfold mreck
  by_cases h1 : m b = 2
  · rw [if_pos h1, if_neg one_n0]
    by_cases h2 : m c = 2
    · rw [if_pos h2, if_neg one_n0, if_neg (show ¬ (¬ m b = 2 ∨ ¬ m c = 2) from fun q => q.elim (fun z => z h1) (fun z => z h2))]
      unfold g_X10_reckons_j57 g_X10_reckons_j69 g_X10_reckons_j91 g_X10_reckons_j163
      rw [m_traps, ob_i]
      simp only [m_gives ha, ob_i]
      rcases (show k = 4 ∨ k = 5 ∨ k = 6 ∨ k = 7 ∨ k = 8 ∨ k = 9 by omega) with rfl | rfl | rfl | rfl | rfl | rfl
      · rw [if_neg (show ¬ nI 4 = 7 by decide), if_neg (show ¬ nI 4 = 8 by decide), if_neg (show ¬ nI 4 = 9 by decide), if_pos (show nI 4 = 4 by decide), if_neg (by omega), if_neg (by omega), if_pos rfl]; rfl
      · rw [if_neg (show ¬ nI 5 = 7 by decide), if_neg (show ¬ nI 5 = 8 by decide), if_neg (show ¬ nI 5 = 9 by decide), if_neg (show ¬ nI 5 = 4 by decide), if_pos (show nI 5 = 5 by decide), if_neg (by omega), if_neg (by omega), if_neg (by omega), if_pos rfl]; rfl
      · rw [if_neg (show ¬ nI 6 = 7 by decide), if_neg (show ¬ nI 6 = 8 by decide), if_neg (show ¬ nI 6 = 9 by decide), if_neg (show ¬ nI 6 = 4 by decide), if_neg (show ¬ nI 6 = 5 by decide), if_pos (show nI 6 = 6 by decide), if_neg (by omega), if_neg (by omega), if_neg (by omega), if_neg (by omega), if_pos rfl]; rfl
      · rw [if_pos (show nI 7 = 7 by decide)]
        by_cases h3 : m (40 + c) = 0
        · rw [if_pos h3, if_pos (show (7 = 7 ∨ 7 = 8) ∧ m (40 + c) = 0 from ⟨Or.inl rfl, h3⟩)]; rfl
        · rw [if_neg h3, if_neg (show ¬ nI 7 = 9 by decide), if_neg (show ¬ nI 7 = 4 by decide), if_neg (show ¬ nI 7 = 5 by decide), if_neg (show ¬ nI 7 = 6 by decide), if_pos (show nI 7 = 7 by decide), ck_t h3, if_neg (show ¬ ((7 = 7 ∨ 7 = 8) ∧ m (40 + c) = 0) from fun q => h3 q.2), if_neg (show ¬ (7 : Nat) = 9 by decide), if_neg (show ¬ (7 : Nat) = 4 by decide), if_neg (show ¬ (7 : Nat) = 5 by decide), if_neg (show ¬ (7 : Nat) = 6 by decide), if_pos (show (7 : Nat) = 7 by decide)]; rfl
      · rw [if_neg (show ¬ nI 8 = 7 by decide), if_pos (show nI 8 = 8 by decide)]
        by_cases h3 : m (40 + c) = 0
        · rw [if_pos h3, if_pos (show (8 = 7 ∨ 8 = 8) ∧ m (40 + c) = 0 from ⟨Or.inr rfl, h3⟩)]; rfl
        · rw [if_neg h3, if_neg (show ¬ nI 8 = 9 by decide), if_neg (show ¬ nI 8 = 4 by decide), if_neg (show ¬ nI 8 = 5 by decide), if_neg (show ¬ nI 8 = 6 by decide), if_neg (show ¬ nI 8 = 7 by decide), ck_t h3, if_neg (show ¬ ((8 = 7 ∨ 8 = 8) ∧ m (40 + c) = 0) from fun q => h3 q.2), if_neg (show ¬ (8 : Nat) = 9 by decide), if_neg (show ¬ (8 : Nat) = 4 by decide), if_neg (show ¬ (8 : Nat) = 5 by decide), if_neg (show ¬ (8 : Nat) = 6 by decide), if_neg (show ¬ (8 : Nat) = 7 by decide)]; rfl
      · rw [if_neg (show ¬ nI 9 = 7 by decide), if_neg (show ¬ nI 9 = 8 by decide), if_pos (show nI 9 = 9 by decide), if_neg (show ¬ ((9 = 7 ∨ 9 = 8) ∧ m (40 + c) = 0) by omega), if_pos (show (9 : Nat) = 9 by decide)]
        by_cases h3 : m (40 + c) ≤ m (40 + b)
        · rw [if_pos h3, if_neg (show ¬ m (40 + b) < m (40 + c) by rw [Int32.le_iff_toInt_le] at h3; rw [Int32.lt_iff_toInt_lt]; omega)]; rfl
        · rw [if_neg h3, if_pos (show m (40 + b) < m (40 + c) by rw [Int32.le_iff_toInt_le] at h3; rw [Int32.lt_iff_toInt_lt]; omega)]; rfl
    · rw [if_neg h2, if_pos rfl, if_pos (Or.inr h2)]; rfl
  · rw [if_neg h1, if_pos rfl, if_pos (Or.inl h1)]; rfl
theorem m_cells {F o k a b : Nat} {u : rg_U} {m : Row} (hk : k = 13 ∨ k = 14) (ha : a < 40) (hb : b < 40) : g_X10_cells F o 134 (nI k) (nI a) (nI b) (sT u o m 0 (-1) (-1)) = some (sTp u o (if k = 13 then mcel m b (fun p => mgiv m a (m p) (m (40 + p))) else mcel m a (fun p => mgiv m p (m b) (m (40 + b))))) := by
  have key : ∀ y, y < 40 → g_X10_cells_j12 F o 134 (nI k) (nI a) (nI b) (nI y) (sT u o m 0 (-1) (-1)) = some (sTp u o (mcel m y (fun p => if k = 13 then mgiv m a (m p) (m (40 + p)) else mgiv m p (m b) (m (40 + b))))) := by
    intro y hy
    unfold g_X10_cells_j12 mcel
    rw [m_isOf hy, ob_i, m_traps, ob_i, m_traps, ob_i]
    by_cases h1 : m y = 2
    · rw [if_pos h1, if_neg one_n0, if_pos h1, c40, ck_t (inb_nI (by omega) (by decide)), ck_t (inb_nI (by omega) (by decide)), rA_sT, tnn (by omega)]
      by_cases h2 : g_X10_isIn (m (40 + y)) 0 31 = 0
      · rw [if_pos h2, if_neg (in_0.mp h2)]; rfl
      · rw [if_neg h2, if_pos (Classical.byContradiction fun q => h2 (in_0.mpr q))]
        obtain ⟨q, hq, q1, q2⟩ := in_nat h2 (by decide)
        have hq2 : q ≤ 31 := by have e1 : (31 : Int32).toInt = 31 := rfl; omega
        rw [hq, show tn (nI q) = q from tnn (by omega), c8, c0, c40, c0, c40]
        dsimp only
        rcases hk with rfl | rfl
        · rw [if_pos (show nI 13 = 13 by decide), if_pos (show (13 : Nat) = 13 by decide), ck_t (inb_nI (by omega) (by decide)), ck_t (inb_nI (by omega) (by decide)), rA_sT, rA_sT, tnn (by omega), tnn (by omega), m_gives ha, ob_i]; rfl
        · rw [if_neg (show ¬ nI 14 = 13 by decide), if_neg (show ¬ 14 = 13 by decide), ck_t (inb_nI (by omega) (by decide)), ck_t (inb_nI (by omega) (by decide)), rA_sT, rA_sT, tnn (by omega), tnn (by omega), m_gives (by omega), ob_i]; rfl
    · rw [if_neg h1, if_pos rfl, if_neg h1]; rfl
  unfold g_X10_cells
  rcases hk with rfl | rfl
  · rw [if_pos (show nI 13 = 13 by decide), if_pos rfl, key b hb]; rfl
  · rw [if_neg (show ¬ nI 14 = 13 by decide), if_neg (show ¬ 14 = 13 by decide), key a ha]; rfl
theorem c121 {F o : Nat} {u : rg_U} {m : Row} {a b c : Int32} : rA (sT u o m a b c) o 121 = m 121 := rA_sT
theorem c120 {F o : Nat} {u : rg_U} {m : Row} {a b c : Int32} : rA (sT u o m a b c) o 120 = m 120 := rA_sT
theorem m_goes {F o k d : Nat} {a b : Int32} {u : rg_U} {m : Row} (hk : k = 15 ∨ k = 16 ∨ k = 17 ∨ k = 18) (ha : k = 16 → ∃ p, p < 40 ∧ a = nI p) (hd : m 121 = nI d) (hd8 : d ≤ 8) (c num en : Int32) : g_X10_goes F o 134 (nI k) a b (sT u o m 0 (-1) (-1)) = some (sTp u o (mdo m k a b c num en)) := by
  unfold g_X10_goes
  rcases hk with rfl | rfl | rfl | rfl
  · rw [if_pos (show nI 15 = 15 by decide), ck_t (by decide), lt1_i, sA_sT]; rfl
  · obtain ⟨p, hp, rfl⟩ := ha rfl
    rw [if_neg (show ¬ nI 16 = 15 by decide), if_pos (show nI 16 = 16 by decide), m_isOf hp, ob_i, m_traps, ob_i, c40, ck_t (inb_nI (by omega) (by decide)), rA_sT, tnn (by omega), ck_t (by decide), lt1_i, sA_sT]
    show _ = some (sTp u o (if m (tn (nI p)) = 1 then ((if m (40 + tn (nI p)) = 1 then upd m 120 b else m), 0, -1, -1) else mtrp m 1))
    rw [show tn (nI p) = p from tnn (by omega)]
    by_cases h1 : m p = 1
    · rw [if_pos h1, if_neg one_n0, if_pos h1]
      by_cases h2 : m (40 + p) = 1
      · rw [if_pos h2, if_pos h2]; rfl
      · rw [if_neg h2, if_neg h2]; rfl
    · rw [if_neg h1, if_pos rfl, if_neg h1]; rfl
  · rw [if_neg (show ¬ nI 17 = 15 by decide), if_neg (show ¬ nI 17 = 16 by decide), if_pos (show nI 17 = 17 by decide), ck_t (by decide), ck_t (by decide), m_traps, ob_i, ck_t (by decide)]
    simp only [lt1_i, rA_sT, sA_sT, show tn 121 = 121 from by decide, show tn 120 = 120 from by decide, hd]
    show _ = some (sTp u o (if m 121 = 8 then mtrp m 4 else (upd (upd (upd m (122 + tn (m 121)) (m 120)) 121 (m 121 + 1)) 120 a, 0, -1, -1)))
    rw [hd, c122]
    by_cases h1 : nI d = 8
    · rw [if_pos h1, if_pos h1]; rfl
    · rw [if_neg h1, if_neg h1]
      have hd7 : d < 8 := by
        rcases Nat.lt_or_ge d 8 with q | q
        · exact q
        · exact absurd (by rw [show d = 8 by omega]; rfl) h1
      rw [ck_t (inb_nI (by omega) (by decide)), ck_t (by decide), ck_t (by decide), ck_t (by decide), show tn (nI (122 + d)) = 122 + d from tnn (by omega), show tn (nI d) = d from tnn (by omega)]
      have e1 : upd m (122 + d) (m 120) 121 = nI d := by rw [pk_un (by omega), hd]
      rw [e1]; rfl
  · rw [if_neg (show ¬ nI 18 = 15 by decide), if_neg (show ¬ nI 18 = 16 by decide), if_neg (show ¬ nI 18 = 17 by decide), ck_t (by decide), ck_t (by decide), ck_t (by decide), ck_t (by decide)]
    simp only [lt1_i, rA_sT, sA_sT, show tn 121 = 121 from by decide, show tn 120 = 120 from by decide, show tn 132 = 132 from by decide, hd]
    show _ = some (sTp u o (if m 121 = 0 then (upd m 132 2, 0, -1, -1) else (upd (upd m 121 (m 121 - 1)) 120 (m (122 + tn (m 121 - 1))), 0, -1, -1)))
    rw [hd]
    by_cases h1 : nI d = 0
    · rw [if_pos h1, if_pos h1]; rfl
    · rw [if_neg h1, if_neg h1]
      have hd0 : 0 < d := Nat.pos_of_ne_zero fun q => h1 (by rw [q]; rfl)
      rw [show nI d - 1 = nI (d - 1) from nI_sub (a := d) (b := 1) hd0, ck_t (by decide), pk_us, c122, ck_t (inb_nI (by omega) (by decide)), ck_t (by decide), show tn (nI (122 + (d - 1))) = 122 + (d - 1) from tnn (by omega), show tn (nI (d - 1)) = d - 1 from tnn (by omega), pk_un (by omega)]
      rfl
