theorem m_looks {F r cn l t : Nat} {v : rg_U} (hr : r < 5) (hP : okP (Pm v r)) (h41 : v.1 41 = nI r) (h42 : v.1 42 = nI l) (hl : l ≤ 800) (hl2 : (kindOf (Pm v r) (nI cn) = 19 ∨ kindOf (Pm v r) (nI cn) = 20) → l < 800) (hc : v.2.1 31 120 = nI cn) (hcn : cn ≤ 64) (ht : v.2.1 31 133 = nI t) (ht3 : t ≤ 3000) (hF : 10000 < F) : g_X10_looks F v = some (rw_ v 34 (lkA (Pm v r) (v.2.1 31) l (v.2.1 33) (v.2.1 34))) := by
  have a215 : ∀ A, g_X10_looks_j215 F (rw_ v 34 A) = some (rw_ v 34 (addB A t)) := fun A => by
    unfold g_X10_looks_j215
    rw [ck_t (show inb 133 134 by decide), show rA (rw_ v 34 A) 31 133 = nI t from (congrFun (rw_n (by decide)) 133).trans ht, m_adds (by omega), ob_i, rw_A, rw_rw]
  have a203 : l < 800 → ∀ A, g_X10_looks_j203 F (rw_ v 34 A) = some (rw_ v 34 (addB (addB A (3008 + l)) t)) := fun q A => by
    unfold g_X10_looks_j203
    rw [show rF (rw_ v 34 A) 0 42 = nI l from h42, show (3008 : Int32) + nI l = nI (3008 + l) from nI_add 3008 l, m_adds (by omega), ob_i, rw_A, rw_rw, a215]
  have hkk : ∀ k, kindOf (Pm v r) (nI cn) = k → ∀ A, g_X10_looks_j191 F k (rw_ v 34 A) = some (rw_ v 34 (addB (if k = 19 ∨ k = 20 then addB A (3008 + l) else A) t)) := fun k hk A => by
    unfold g_X10_looks_j191
    by_cases q : k = 19
    · rw [if_pos q, if_pos (Or.inl q), a203 (hl2 (Or.inl (hk.trans q)))]
    · rw [if_neg q]
      by_cases p : k = 20
      · rw [if_pos p, if_pos (Or.inr p), a203 (hl2 (Or.inr (hk.trans p)))]
      · rw [if_neg p, if_neg (fun z => z.elim q p), a215]
  have h120 : rA v 31 120 = nI cn := hc
  unfold g_X10_looks
  rw [ck_t (show inb 120 134 by decide), show rF v 0 41 = nI r from h41, h120, m_kindAt hr hcn, ob_i, m_clearsLooked hF, ob_i]
  unfold lkA
  dsimp only
  rw [hc, ht, tnn (show t < 2 ^ 31 by omega), tnn (show cn < 2 ^ 31 by omega)]
  generalize hk : kindOf (Pm v r) (nI cn) = k
  by_cases q0 : k = -1
  · rw [if_pos q0, if_pos q0]
  rw [if_neg q0, if_neg q0]
  have hc64 : cn < 64 := by
    rcases Nat.lt_or_ge cn 64 with z | z
    · exact z
    · exfalso
      apply q0
      rw [← hk, show cn = 64 by omega]
      rfl
  have hk1 : (Pm v r).1 cn = k := by
    rw [← hk]
    unfold kindOf
    rw [if_pos (show nI cn < (64 : Int32) from nI_lt (a := cn) (b := 64) hc64 (by decide)), tnn (by omega)]
  have hfine := hP cn hc64
  rw [hk1] at hfine
  generalize eB : (Pm v r).2.1 cn = B at *
  generalize eC : (Pm v r).2.2.1 cn = C at *
  generalize eD : (Pm v r).2.2.2 cn = D at *
  have e7 : ∀ A, rA (rw_ v 34 A) 7 (nI (64 * r + cn)) = B := fun A => by rw [rA_nI (by omega), rw_n (by decide), ← eB, Pm_1 hc64]
  have e8 : ∀ A, rA (rw_ v 34 A) 8 (nI (64 * r + cn)) = C := fun A => by rw [rA_nI (by omega), rw_n (by decide), ← eC, Pm_2 hc64]
  have e9 : ∀ A, rA (rw_ v 34 A) 9 (nI (64 * r + cn)) = D := fun A => by rw [rA_nI (by omega), rw_n (by decide), ← eD, Pm_3 hc64]
  have e41 : ∀ A, rF (rw_ v 34 A) 0 41 = nI r := fun A => h41
  have e64 : (64 : Int32) * nI r + nI cn = nI (64 * r + cn) := by rw [show (64 : Int32) * nI r = nI (64 * r) from pk_mul 64 r, nI_add]
  have aLk : ∀ (p : Nat) A, p < 40 → g_X10_looksAt F (nI p) (rw_ v 34 A) = some (rw_ v 34 (orB A (v.2.1 33) p)) := fun p A hp => by
    rw [m_looksAt hp hF, rw_A, rw_rw, rw_n (by decide)]
  have a149 : ∀ A, g_X10_looks_j149 F k C (rw_ v 34 A) = some (rw_ v 34 (addB (if k = 19 ∨ k = 20 then addB (if k = 13 ∧ ¬ g_X10_isIn (v.2.1 31 (40 + tn C)) 0 31 = 0 then orB A (v.2.1 33) (8 + tn (v.2.1 31 (40 + tn C))) else A) (3008 + l) else (if k = 13 ∧ ¬ g_X10_isIn (v.2.1 31 (40 + tn C)) 0 31 = 0 then orB A (v.2.1 33) (8 + tn (v.2.1 31 (40 + tn C))) else A)) t)) := fun A => by
    unfold g_X10_looks_j149
    by_cases q : k = 13
    · obtain ⟨-, p, hp, e⟩ := fine_b hfine (Or.inr (Or.inr (Or.inl q)))
      rw [if_pos q, e, c40, tnn (by omega), ck_t (inb_nI (by omega) (by decide)), ck_t (inb_nI (by omega) (by decide)), rA_nI (by omega), rw_n (by decide)]
      by_cases z : g_X10_isIn (v.2.1 31 (40 + p)) 0 31 = 0
      · rw [if_pos z, if_neg (c := k = 13 ∧ ¬ g_X10_isIn (v.2.1 31 (40 + p)) 0 31 = 0) (fun y => y.2 z), hkk k hk]
      · obtain ⟨s, es, s1, s2⟩ := in_nat z (by decide)
        have e31 : (31 : Int32).toInt = 31 := rfl
        rw [if_neg z, if_pos (c := k = 13 ∧ ¬ g_X10_isIn (v.2.1 31 (40 + p)) 0 31 = 0) ⟨q, z⟩, es, c8, tnn (by omega), aLk _ _ (by omega), ob_i, hkk k hk]
    · rw [if_neg q, if_neg (c := k = 13 ∧ ¬ g_X10_isIn (v.2.1 31 (40 + tn C)) 0 31 = 0) (fun y => q y.1), hkk k hk]
  have a138 : ∀ A, g_X10_looks_j138 F k B C (rw_ v 34 A) = g_X10_looks_j149 F k C (rw_ v 34 (if k = 14 then orB A (v.2.1 33) (tn B) else A)) := fun A => by
    unfold g_X10_looks_j138
    by_cases q : k = 14
    · obtain ⟨⟨p, hp, e⟩, -⟩ := fine_b hfine (Or.inr (Or.inr (Or.inr q)))
      rw [if_pos q, if_pos q, e, aLk p A (by omega), ob_i, tnn (by omega)]
    · rw [if_neg q, if_neg q]
  have a120 : (¬ g_X10_isIn k 4 10 = 0 ∨ k = 12) → ∀ A, g_X10_looks_j120 F (nI cn) k B C (rw_ v 34 A) = g_X10_looks_j138 F k B C (rw_ v 34 (orB A (v.2.1 33) (tn D))) := fun q A => by
    obtain ⟨-, -, p, hp, e⟩ := fine_c hfine q
    unfold g_X10_looks_j120
    rw [e41, e64, ck_t (inb_nI (by omega) (by decide)), e9, e, aLk p A (by omega), ob_i, tnn (by omega)]
  have a104 : ∀ A, g_X10_looks_j104 F (nI cn) k B C (rw_ v 34 A) = g_X10_looks_j138 F k B C (rw_ v 34 (if ¬ g_X10_isIn k 4 10 = 0 ∨ k = 12 then orB A (v.2.1 33) (tn D) else A)) := fun A => by
    unfold g_X10_looks_j104
    by_cases q : g_X10_isIn k 4 10 = 0
    · rw [if_pos q]
      by_cases p : k = 12
      · rw [if_pos p, if_pos (Or.inr p), a120 (Or.inr p)]
      · rw [if_neg p, if_neg (fun z => z.elim (fun y => y q) p)]
    · rw [if_neg q, if_pos (Or.inl q), a120 (Or.inl q)]
  have a98 : (k = 3 ∨ k = 11 ∨ k = 14 ∨ k = 13 ∨ ¬ g_X10_isIn k 4 10 = 0 ∨ k = 12) → ∀ A, g_X10_looks_j98 F (nI cn) k B C (rw_ v 34 A) = g_X10_looks_j104 F (nI cn) k B C (rw_ v 34 (orB A (v.2.1 33) (tn C))) := fun q A => by
    have hp : isReg C := by
      by_cases z : ¬ g_X10_isIn k 4 10 = 0 ∨ k = 12
      · exact (fine_c hfine z).2.1
      · refine (fine_b hfine ?_).2
        rcases q with q | q | q | q | q
        · exact Or.inl q
        · exact Or.inr (Or.inl q)
        · exact Or.inr (Or.inr (Or.inr q))
        · exact Or.inr (Or.inr (Or.inl q))
        · exact absurd q z
    obtain ⟨p, hp, e⟩ := hp
    unfold g_X10_looks_j98
    rw [e, aLk p A (by omega), ob_i, tnn (by omega)]
  have fin : ∀ A, g_X10_looks_j104 F (nI cn) k B C (rw_ v 34 A) = some (rw_ v 34 (addB (if k = 19 ∨ k = 20 then addB (if k = 13 ∧ ¬ g_X10_isIn (v.2.1 31 (40 + tn C)) 0 31 = 0 then orB (if k = 14 then orB (if ¬ g_X10_isIn k 4 10 = 0 ∨ k = 12 then orB A (v.2.1 33) (tn D) else A) (v.2.1 33) (tn B) else (if ¬ g_X10_isIn k 4 10 = 0 ∨ k = 12 then orB A (v.2.1 33) (tn D) else A)) (v.2.1 33) (8 + tn (v.2.1 31 (40 + tn C))) else (if k = 14 then orB (if ¬ g_X10_isIn k 4 10 = 0 ∨ k = 12 then orB A (v.2.1 33) (tn D) else A) (v.2.1 33) (tn B) else (if ¬ g_X10_isIn k 4 10 = 0 ∨ k = 12 then orB A (v.2.1 33) (tn D) else A))) (3008 + l) else (if k = 13 ∧ ¬ g_X10_isIn (v.2.1 31 (40 + tn C)) 0 31 = 0 then orB (if k = 14 then orB (if ¬ g_X10_isIn k 4 10 = 0 ∨ k = 12 then orB A (v.2.1 33) (tn D) else A) (v.2.1 33) (tn B) else (if ¬ g_X10_isIn k 4 10 = 0 ∨ k = 12 then orB A (v.2.1 33) (tn D) else A)) (v.2.1 33) (8 + tn (v.2.1 31 (40 + tn C))) else (if k = 14 then orB (if ¬ g_X10_isIn k 4 10 = 0 ∨ k = 12 then orB A (v.2.1 33) (tn D) else A) (v.2.1 33) (tn B) else (if ¬ g_X10_isIn k 4 10 = 0 ∨ k = 12 then orB A (v.2.1 33) (tn D) else A)))) t)) := fun A => by
    rw [a104, a138, a149]
  rw [e41, e64, ck_t (inb_nI (by omega) (by decide)), ck_t (inb_nI (by omega) (by decide)), e7, e8]
  by_cases qa : k = 3 ∨ k = 11 ∨ k = 14 ∨ k = 13 ∨ ¬ g_X10_isIn k 4 10 = 0 ∨ k = 12
  · rw [if_pos qa, a98 qa, fin]
    by_cases c1 : k = 3
    · rw [if_pos c1]
    rw [if_neg c1]
    by_cases c2 : k = 11
    · rw [if_pos c2]
    rw [if_neg c2]
    by_cases c3 : k = 14
    · rw [if_pos c3]
    rw [if_neg c3]
    by_cases c4 : k = 13
    · rw [if_pos c4]
    rw [if_neg c4]
    by_cases c5 : g_X10_isIn k 4 10 = 0
    · rw [if_pos c5]
      by_cases c6 : k = 12
      · rw [if_pos c6]
      · exact absurd qa (by simp [c1, c2, c3, c4, c5, c6])
    · rw [if_neg c5]
  · rw [if_neg (c := k = 3 ∨ k = 11 ∨ k = 14 ∨ k = 13 ∨ ¬ g_X10_isIn k 4 10 = 0 ∨ k = 12) qa, fin]
    have c5 : g_X10_isIn k 4 10 = 0 := Classical.byContradiction fun z => qa (Or.inr (Or.inr (Or.inr (Or.inr (Or.inl z)))))
    rw [if_neg (fun z => qa (Or.inl z)), if_neg (fun z => qa (Or.inr (Or.inl z))), if_neg (fun z => qa (Or.inr (Or.inr (Or.inl z)))), if_neg (fun z => qa (Or.inr (Or.inr (Or.inr (Or.inl z))))), if_pos c5, if_neg (fun z => qa (Or.inr (Or.inr (Or.inr (Or.inr (Or.inr z))))))]
