/-! code: which instructions can be -/
theorem ft0 {x : Int32} : g_X9_fits 0 x = 1 := rfl
theorem ft1 {x : Int32} : g_X9_fits 1 x = g_X10_isRegister x := cl_reg
theorem ft2 {x : Int32} : g_X9_fits 2 x = g_X10_isIn x 0 63 := cl_ipl
theorem ft3 {x : Int32} : g_X9_fits 3 x = g_X10_isIn x 0 1 := cl_flag
theorem ft4 {x : Int32} : g_X9_fits 4 x = g_X10_isIn x 1 1000 := rfl
theorem bz {x : Int32} (h : x = 0 ∨ x = 1) : (if x = 0 then (0 : Int32) else 1) = x := by
  rcases h with q | q <;> subst q <;> rfl
theorem rg_b {x : Int32} : g_X10_isRegister x = 0 ∨ g_X10_isRegister x = 1 := in_b
theorem ins_eq {F k : Nat} {a b c : Int32} {u : rg_U} (hk : k < 23) : g_X9_isInstruction F (nI k) a b c u = some (if g_X9_fits (askA k) a = 0 then 0 else if g_X9_fits (askB k) b = 0 then 0 else if g_X9_fits (askC k) c = 0 then 0 else 1) := by
  unfold g_X9_isInstruction
  have h1 : ¬ nI k < 0 := nI_pos (by omega)
  have h2 : ¬ (23 : Int32) ≤ nI k := nI_ge (a := k) (b := 23) hk (by decide)
  have h3 : nI k < (23 : Int32) := nI_lt (a := k) (b := 23) hk (by decide)
  rw [if_neg h1, if_neg h2, if_neg h2, if_pos h3, ck_t (inb_nI hk (by decide)), nI_clamp (by omega)]
  by_cases q1 : g_X9_fits (askA k) a = 0
  · rw [if_pos q1, if_pos q1]
  · rw [if_neg q1, if_neg q1, ck_t (inb_nI hk (by decide))]
    by_cases q2 : g_X9_fits (askB k) b = 0
    · rw [if_pos q2, if_pos q2]
    · rw [if_neg q2, if_neg q2, ck_t (inb_nI hk (by decide))]
      by_cases q3 : g_X9_fits (askC k) c = 0
      · rw [if_pos q3, if_pos q3]
      · rw [if_neg q3, if_neg q3]
theorem z1_ne : ¬ (1 : Int32) = 0 := by decide
theorem fe_0 {a b c : Int32} : (if g_X9_fits (askA 0) a = 0 then (0 : Int32) else if g_X9_fits (askB 0) b = 0 then 0 else if g_X9_fits (askC 0) c = 0 then 0 else 1) = g_X10_isFine (nI 0) a b c := rfl
theorem fe_18 {a b c : Int32} : (if g_X9_fits (askA 18) a = 0 then (0 : Int32) else if g_X9_fits (askB 18) b = 0 then 0 else if g_X9_fits (askC 18) c = 0 then 0 else 1) = g_X10_isFine (nI 18) a b c := rfl
theorem fe_15 {a b c : Int32} : (if g_X9_fits (askA 15) a = 0 then (0 : Int32) else if g_X9_fits (askB 15) b = 0 then 0 else if g_X9_fits (askC 15) c = 0 then 0 else 1) = g_X10_isFine (nI 15) a b c := by
  show (if g_X9_fits 2 a = 0 then (0 : Int32) else if (1 : Int32) = 0 then 0 else if (1 : Int32) = 0 then 0 else 1) = g_X10_isIn a 0 63
  rw [if_neg z1_ne, if_neg z1_ne, ft2, bz in_b]
theorem fe_17 {a b c : Int32} : (if g_X9_fits (askA 17) a = 0 then (0 : Int32) else if g_X9_fits (askB 17) b = 0 then 0 else if g_X9_fits (askC 17) c = 0 then 0 else 1) = g_X10_isFine (nI 17) a b c := by
  show (if g_X9_fits 2 a = 0 then (0 : Int32) else if (1 : Int32) = 0 then 0 else if (1 : Int32) = 0 then 0 else 1) = g_X10_isIn a 0 63
  rw [if_neg z1_ne, if_neg z1_ne, ft2, bz in_b]
theorem fe_1 {a b c : Int32} : (if g_X9_fits (askA 1) a = 0 then (0 : Int32) else if g_X9_fits (askB 1) b = 0 then 0 else if g_X9_fits (askC 1) c = 0 then 0 else 1) = g_X10_isFine (nI 1) a b c := by
  show (if g_X9_fits 1 a = 0 then (0 : Int32) else if (1 : Int32) = 0 then 0 else if (1 : Int32) = 0 then 0 else 1) = (if g_X10_isRegister a = 0 then (0 : Int32) else 1)
  rw [if_neg z1_ne, if_neg z1_ne, ft1]
theorem fe_19 {a b c : Int32} : (if g_X9_fits (askA 19) a = 0 then (0 : Int32) else if g_X9_fits (askB 19) b = 0 then 0 else if g_X9_fits (askC 19) c = 0 then 0 else 1) = g_X10_isFine (nI 19) a b c := by
  show (if g_X9_fits 1 a = 0 then (0 : Int32) else if (1 : Int32) = 0 then 0 else if (1 : Int32) = 0 then 0 else 1) = (if g_X10_isRegister a = 0 then (0 : Int32) else 1)
  rw [if_neg z1_ne, if_neg z1_ne, ft1]
theorem fe_21 {a b c : Int32} : (if g_X9_fits (askA 21) a = 0 then (0 : Int32) else if g_X9_fits (askB 21) b = 0 then 0 else if g_X9_fits (askC 21) c = 0 then 0 else 1) = g_X10_isFine (nI 21) a b c := by
  show (if g_X9_fits 1 a = 0 then (0 : Int32) else if (1 : Int32) = 0 then 0 else if (1 : Int32) = 0 then 0 else 1) = (if g_X10_isRegister a = 0 then (0 : Int32) else 1)
  rw [if_neg z1_ne, if_neg z1_ne, ft1]
theorem fe_22 {a b c : Int32} : (if g_X9_fits (askA 22) a = 0 then (0 : Int32) else if g_X9_fits (askB 22) b = 0 then 0 else if g_X9_fits (askC 22) c = 0 then 0 else 1) = g_X10_isFine (nI 22) a b c := by
  show (if g_X9_fits 1 a = 0 then (0 : Int32) else if (1 : Int32) = 0 then 0 else if (1 : Int32) = 0 then 0 else 1) = (if g_X10_isRegister a = 0 then (0 : Int32) else 1)
  rw [if_neg z1_ne, if_neg z1_ne, ft1]
theorem fe_2 {a b c : Int32} : (if g_X9_fits (askA 2) a = 0 then (0 : Int32) else if g_X9_fits (askB 2) b = 0 then 0 else if g_X9_fits (askC 2) c = 0 then 0 else 1) = g_X10_isFine (nI 2) a b c := by
  show (if g_X9_fits 1 a = 0 then (0 : Int32) else if g_X9_fits 3 b = 0 then 0 else if (1 : Int32) = 0 then 0 else 1) = (if g_X10_isRegister a = 0 then (0 : Int32) else g_X10_isIn b 0 1)
  rw [if_neg z1_ne, ft1, ft3, bz in_b]
theorem fe_16 {a b c : Int32} : (if g_X9_fits (askA 16) a = 0 then (0 : Int32) else if g_X9_fits (askB 16) b = 0 then 0 else if g_X9_fits (askC 16) c = 0 then 0 else 1) = g_X10_isFine (nI 16) a b c := by
  show (if g_X9_fits 1 a = 0 then (0 : Int32) else if g_X9_fits 2 b = 0 then 0 else if (1 : Int32) = 0 then 0 else 1) = (if g_X10_isRegister a = 0 then (0 : Int32) else g_X10_isIn b 0 63)
  rw [if_neg z1_ne, ft1, ft2, bz in_b]
theorem fe_20 {a b c : Int32} : (if g_X9_fits (askA 20) a = 0 then (0 : Int32) else if g_X9_fits (askB 20) b = 0 then 0 else if g_X9_fits (askC 20) c = 0 then 0 else 1) = g_X10_isFine (nI 20) a b c := by
  show (if g_X9_fits 1 a = 0 then (0 : Int32) else if g_X9_fits 4 b = 0 then 0 else if (1 : Int32) = 0 then 0 else 1) = (if g_X10_isRegister a = 0 then (0 : Int32) else g_X10_isIn b 1 1000)
  rw [if_neg z1_ne, ft1, ft4, bz in_b]
theorem fe_3 {a b c : Int32} : (if g_X9_fits (askA 3) a = 0 then (0 : Int32) else if g_X9_fits (askB 3) b = 0 then 0 else if g_X9_fits (askC 3) c = 0 then 0 else 1) = g_X10_isFine (nI 3) a b c := by
  show (if g_X9_fits 1 a = 0 then (0 : Int32) else if g_X9_fits 1 b = 0 then 0 else if (1 : Int32) = 0 then 0 else 1) = (if g_X10_isRegister a = 0 then (0 : Int32) else g_X10_isRegister b)
  rw [if_neg z1_ne, ft1, ft1, bz rg_b]
theorem fe_11 {a b c : Int32} : (if g_X9_fits (askA 11) a = 0 then (0 : Int32) else if g_X9_fits (askB 11) b = 0 then 0 else if g_X9_fits (askC 11) c = 0 then 0 else 1) = g_X10_isFine (nI 11) a b c := by
  show (if g_X9_fits 1 a = 0 then (0 : Int32) else if g_X9_fits 1 b = 0 then 0 else if (1 : Int32) = 0 then 0 else 1) = (if g_X10_isRegister a = 0 then (0 : Int32) else g_X10_isRegister b)
  rw [if_neg z1_ne, ft1, ft1, bz rg_b]
theorem fe_13 {a b c : Int32} : (if g_X9_fits (askA 13) a = 0 then (0 : Int32) else if g_X9_fits (askB 13) b = 0 then 0 else if g_X9_fits (askC 13) c = 0 then 0 else 1) = g_X10_isFine (nI 13) a b c := by
  show (if g_X9_fits 1 a = 0 then (0 : Int32) else if g_X9_fits 1 b = 0 then 0 else if (1 : Int32) = 0 then 0 else 1) = (if g_X10_isRegister a = 0 then (0 : Int32) else g_X10_isRegister b)
  rw [if_neg z1_ne, ft1, ft1, bz rg_b]
theorem fe_14 {a b c : Int32} : (if g_X9_fits (askA 14) a = 0 then (0 : Int32) else if g_X9_fits (askB 14) b = 0 then 0 else if g_X9_fits (askC 14) c = 0 then 0 else 1) = g_X10_isFine (nI 14) a b c := by
  show (if g_X9_fits 1 a = 0 then (0 : Int32) else if g_X9_fits 1 b = 0 then 0 else if (1 : Int32) = 0 then 0 else 1) = (if g_X10_isRegister a = 0 then (0 : Int32) else g_X10_isRegister b)
  rw [if_neg z1_ne, ft1, ft1, bz rg_b]
theorem fe_4 {a b c : Int32} : (if g_X9_fits (askA 4) a = 0 then (0 : Int32) else if g_X9_fits (askB 4) b = 0 then 0 else if g_X9_fits (askC 4) c = 0 then 0 else 1) = g_X10_isFine (nI 4) a b c := by
  have r4 : g_X10_isFine (nI 4) a b c = if g_X10_isRegister a = 0 then (0 : Int32) else if g_X10_isRegister b = 0 then 0 else if g_X10_isRegister c = 0 then 0 else 1 := by
    unfold g_X10_isFine
    rw [if_neg (show ¬ nI 4 = (-1) by decide), if_neg (show ¬ nI 4 = 0 by decide), if_neg (show ¬ nI 4 = 18 by decide), if_neg (show ¬ nI 4 = 15 by decide), if_neg (show ¬ nI 4 = 17 by decide)]
    by_cases q : g_X10_isRegister a = 0
    · rw [if_pos q, if_pos q]
    · rw [if_neg q, if_neg q, if_neg (show ¬ nI 4 = 2 by decide), if_neg (show ¬ nI 4 = 16 by decide), if_neg (show ¬ nI 4 = 20 by decide), if_neg (show ¬ nI 4 = 3 by decide), if_neg (show ¬ nI 4 = 11 by decide), if_neg (show ¬ nI 4 = 13 by decide), if_neg (show ¬ nI 4 = 14 by decide), if_neg (show ¬ g_X10_isIn (nI 4) 4 10 = 0 by decide)]
      rfl
  rw [r4, show askA 4 = 1 from rfl, show askB 4 = 1 from rfl, show askC 4 = 1 from rfl, ft1, ft1, ft1]
theorem fe_5 {a b c : Int32} : (if g_X9_fits (askA 5) a = 0 then (0 : Int32) else if g_X9_fits (askB 5) b = 0 then 0 else if g_X9_fits (askC 5) c = 0 then 0 else 1) = g_X10_isFine (nI 5) a b c := by
  have r4 : g_X10_isFine (nI 5) a b c = if g_X10_isRegister a = 0 then (0 : Int32) else if g_X10_isRegister b = 0 then 0 else if g_X10_isRegister c = 0 then 0 else 1 := by
    unfold g_X10_isFine
    rw [if_neg (show ¬ nI 5 = (-1) by decide), if_neg (show ¬ nI 5 = 0 by decide), if_neg (show ¬ nI 5 = 18 by decide), if_neg (show ¬ nI 5 = 15 by decide), if_neg (show ¬ nI 5 = 17 by decide)]
    by_cases q : g_X10_isRegister a = 0
    · rw [if_pos q, if_pos q]
    · rw [if_neg q, if_neg q, if_neg (show ¬ nI 5 = 2 by decide), if_neg (show ¬ nI 5 = 16 by decide), if_neg (show ¬ nI 5 = 20 by decide), if_neg (show ¬ nI 5 = 3 by decide), if_neg (show ¬ nI 5 = 11 by decide), if_neg (show ¬ nI 5 = 13 by decide), if_neg (show ¬ nI 5 = 14 by decide), if_neg (show ¬ g_X10_isIn (nI 5) 4 10 = 0 by decide)]
      rfl
  rw [r4, show askA 5 = 1 from rfl, show askB 5 = 1 from rfl, show askC 5 = 1 from rfl, ft1, ft1, ft1]
theorem fe_6 {a b c : Int32} : (if g_X9_fits (askA 6) a = 0 then (0 : Int32) else if g_X9_fits (askB 6) b = 0 then 0 else if g_X9_fits (askC 6) c = 0 then 0 else 1) = g_X10_isFine (nI 6) a b c := by
  have r4 : g_X10_isFine (nI 6) a b c = if g_X10_isRegister a = 0 then (0 : Int32) else if g_X10_isRegister b = 0 then 0 else if g_X10_isRegister c = 0 then 0 else 1 := by
    unfold g_X10_isFine
    rw [if_neg (show ¬ nI 6 = (-1) by decide), if_neg (show ¬ nI 6 = 0 by decide), if_neg (show ¬ nI 6 = 18 by decide), if_neg (show ¬ nI 6 = 15 by decide), if_neg (show ¬ nI 6 = 17 by decide)]
    by_cases q : g_X10_isRegister a = 0
    · rw [if_pos q, if_pos q]
    · rw [if_neg q, if_neg q, if_neg (show ¬ nI 6 = 2 by decide), if_neg (show ¬ nI 6 = 16 by decide), if_neg (show ¬ nI 6 = 20 by decide), if_neg (show ¬ nI 6 = 3 by decide), if_neg (show ¬ nI 6 = 11 by decide), if_neg (show ¬ nI 6 = 13 by decide), if_neg (show ¬ nI 6 = 14 by decide), if_neg (show ¬ g_X10_isIn (nI 6) 4 10 = 0 by decide)]
      rfl
  rw [r4, show askA 6 = 1 from rfl, show askB 6 = 1 from rfl, show askC 6 = 1 from rfl, ft1, ft1, ft1]
theorem fe_7 {a b c : Int32} : (if g_X9_fits (askA 7) a = 0 then (0 : Int32) else if g_X9_fits (askB 7) b = 0 then 0 else if g_X9_fits (askC 7) c = 0 then 0 else 1) = g_X10_isFine (nI 7) a b c := by
  have r4 : g_X10_isFine (nI 7) a b c = if g_X10_isRegister a = 0 then (0 : Int32) else if g_X10_isRegister b = 0 then 0 else if g_X10_isRegister c = 0 then 0 else 1 := by
    unfold g_X10_isFine
    rw [if_neg (show ¬ nI 7 = (-1) by decide), if_neg (show ¬ nI 7 = 0 by decide), if_neg (show ¬ nI 7 = 18 by decide), if_neg (show ¬ nI 7 = 15 by decide), if_neg (show ¬ nI 7 = 17 by decide)]
    by_cases q : g_X10_isRegister a = 0
    · rw [if_pos q, if_pos q]
    · rw [if_neg q, if_neg q, if_neg (show ¬ nI 7 = 2 by decide), if_neg (show ¬ nI 7 = 16 by decide), if_neg (show ¬ nI 7 = 20 by decide), if_neg (show ¬ nI 7 = 3 by decide), if_neg (show ¬ nI 7 = 11 by decide), if_neg (show ¬ nI 7 = 13 by decide), if_neg (show ¬ nI 7 = 14 by decide), if_neg (show ¬ g_X10_isIn (nI 7) 4 10 = 0 by decide)]
      rfl
  rw [r4, show askA 7 = 1 from rfl, show askB 7 = 1 from rfl, show askC 7 = 1 from rfl, ft1, ft1, ft1]
theorem fe_8 {a b c : Int32} : (if g_X9_fits (askA 8) a = 0 then (0 : Int32) else if g_X9_fits (askB 8) b = 0 then 0 else if g_X9_fits (askC 8) c = 0 then 0 else 1) = g_X10_isFine (nI 8) a b c := by
  have r4 : g_X10_isFine (nI 8) a b c = if g_X10_isRegister a = 0 then (0 : Int32) else if g_X10_isRegister b = 0 then 0 else if g_X10_isRegister c = 0 then 0 else 1 := by
    unfold g_X10_isFine
    rw [if_neg (show ¬ nI 8 = (-1) by decide), if_neg (show ¬ nI 8 = 0 by decide), if_neg (show ¬ nI 8 = 18 by decide), if_neg (show ¬ nI 8 = 15 by decide), if_neg (show ¬ nI 8 = 17 by decide)]
    by_cases q : g_X10_isRegister a = 0
    · rw [if_pos q, if_pos q]
    · rw [if_neg q, if_neg q, if_neg (show ¬ nI 8 = 2 by decide), if_neg (show ¬ nI 8 = 16 by decide), if_neg (show ¬ nI 8 = 20 by decide), if_neg (show ¬ nI 8 = 3 by decide), if_neg (show ¬ nI 8 = 11 by decide), if_neg (show ¬ nI 8 = 13 by decide), if_neg (show ¬ nI 8 = 14 by decide), if_neg (show ¬ g_X10_isIn (nI 8) 4 10 = 0 by decide)]
      rfl
  rw [r4, show askA 8 = 1 from rfl, show askB 8 = 1 from rfl, show askC 8 = 1 from rfl, ft1, ft1, ft1]
theorem fe_9 {a b c : Int32} : (if g_X9_fits (askA 9) a = 0 then (0 : Int32) else if g_X9_fits (askB 9) b = 0 then 0 else if g_X9_fits (askC 9) c = 0 then 0 else 1) = g_X10_isFine (nI 9) a b c := by
  have r4 : g_X10_isFine (nI 9) a b c = if g_X10_isRegister a = 0 then (0 : Int32) else if g_X10_isRegister b = 0 then 0 else if g_X10_isRegister c = 0 then 0 else 1 := by
    unfold g_X10_isFine
    rw [if_neg (show ¬ nI 9 = (-1) by decide), if_neg (show ¬ nI 9 = 0 by decide), if_neg (show ¬ nI 9 = 18 by decide), if_neg (show ¬ nI 9 = 15 by decide), if_neg (show ¬ nI 9 = 17 by decide)]
    by_cases q : g_X10_isRegister a = 0
    · rw [if_pos q, if_pos q]
    · rw [if_neg q, if_neg q, if_neg (show ¬ nI 9 = 2 by decide), if_neg (show ¬ nI 9 = 16 by decide), if_neg (show ¬ nI 9 = 20 by decide), if_neg (show ¬ nI 9 = 3 by decide), if_neg (show ¬ nI 9 = 11 by decide), if_neg (show ¬ nI 9 = 13 by decide), if_neg (show ¬ nI 9 = 14 by decide), if_neg (show ¬ g_X10_isIn (nI 9) 4 10 = 0 by decide)]
      rfl
  rw [r4, show askA 9 = 1 from rfl, show askB 9 = 1 from rfl, show askC 9 = 1 from rfl, ft1, ft1, ft1]
theorem fe_10 {a b c : Int32} : (if g_X9_fits (askA 10) a = 0 then (0 : Int32) else if g_X9_fits (askB 10) b = 0 then 0 else if g_X9_fits (askC 10) c = 0 then 0 else 1) = g_X10_isFine (nI 10) a b c := by
  have r4 : g_X10_isFine (nI 10) a b c = if g_X10_isRegister a = 0 then (0 : Int32) else if g_X10_isRegister b = 0 then 0 else if g_X10_isRegister c = 0 then 0 else 1 := by
    unfold g_X10_isFine
    rw [if_neg (show ¬ nI 10 = (-1) by decide), if_neg (show ¬ nI 10 = 0 by decide), if_neg (show ¬ nI 10 = 18 by decide), if_neg (show ¬ nI 10 = 15 by decide), if_neg (show ¬ nI 10 = 17 by decide)]
    by_cases q : g_X10_isRegister a = 0
    · rw [if_pos q, if_pos q]
    · rw [if_neg q, if_neg q, if_neg (show ¬ nI 10 = 2 by decide), if_neg (show ¬ nI 10 = 16 by decide), if_neg (show ¬ nI 10 = 20 by decide), if_neg (show ¬ nI 10 = 3 by decide), if_neg (show ¬ nI 10 = 11 by decide), if_neg (show ¬ nI 10 = 13 by decide), if_neg (show ¬ nI 10 = 14 by decide), if_neg (show ¬ g_X10_isIn (nI 10) 4 10 = 0 by decide)]
      rfl
  rw [r4, show askA 10 = 1 from rfl, show askB 10 = 1 from rfl, show askC 10 = 1 from rfl, ft1, ft1, ft1]
theorem fe_12 {a b c : Int32} : (if g_X9_fits (askA 12) a = 0 then (0 : Int32) else if g_X9_fits (askB 12) b = 0 then 0 else if g_X9_fits (askC 12) c = 0 then 0 else 1) = g_X10_isFine (nI 12) a b c := by
  have r4 : g_X10_isFine (nI 12) a b c = if g_X10_isRegister a = 0 then (0 : Int32) else if g_X10_isRegister b = 0 then 0 else if g_X10_isRegister c = 0 then 0 else 1 := by
    unfold g_X10_isFine
    rw [if_neg (show ¬ nI 12 = (-1) by decide), if_neg (show ¬ nI 12 = 0 by decide), if_neg (show ¬ nI 12 = 18 by decide), if_neg (show ¬ nI 12 = 15 by decide), if_neg (show ¬ nI 12 = 17 by decide)]
    by_cases q : g_X10_isRegister a = 0
    · rw [if_pos q, if_pos q]
    · rw [if_neg q, if_neg q, if_neg (show ¬ nI 12 = 2 by decide), if_neg (show ¬ nI 12 = 16 by decide), if_neg (show ¬ nI 12 = 20 by decide), if_neg (show ¬ nI 12 = 3 by decide), if_neg (show ¬ nI 12 = 11 by decide), if_neg (show ¬ nI 12 = 13 by decide), if_neg (show ¬ nI 12 = 14 by decide), if_pos (show g_X10_isIn (nI 12) 4 10 = 0 by decide), if_pos (show nI 12 = 12 by decide)]
      rfl
  rw [r4, show askA 12 = 1 from rfl, show askB 12 = 1 from rfl, show askC 12 = 1 from rfl, ft1, ft1, ft1]
theorem fine_eq {k : Nat} {a b c : Int32} (hk : k < 23) : (if g_X9_fits (askA k) a = 0 then (0 : Int32) else if g_X9_fits (askB k) b = 0 then 0 else if g_X9_fits (askC k) c = 0 then 0 else 1) = g_X10_isFine (nI k) a b c := by
  match k, hk with
  | 0, _ => exact fe_0
  | 1, _ => exact fe_1
  | 2, _ => exact fe_2
  | 3, _ => exact fe_3
  | 4, _ => exact fe_4
  | 5, _ => exact fe_5
  | 6, _ => exact fe_6
  | 7, _ => exact fe_7
  | 8, _ => exact fe_8
  | 9, _ => exact fe_9
  | 10, _ => exact fe_10
  | 11, _ => exact fe_11
  | 12, _ => exact fe_12
  | 13, _ => exact fe_13
  | 14, _ => exact fe_14
  | 15, _ => exact fe_15
  | 16, _ => exact fe_16
  | 17, _ => exact fe_17
  | 18, _ => exact fe_18
  | 19, _ => exact fe_19
  | 20, _ => exact fe_20
  | 21, _ => exact fe_21
  | 22, _ => exact fe_22
  | k + 23, hk => omega
/-- a kind that isn't one -/
theorem fine_out {x a b c : Int32} (h1 : ¬ x = -1) (h : x < 0 ∨ 23 ≤ x) : g_X10_isFine x a b c = 0 := by
  have ne : ∀ n : Nat, n < 23 → ¬ x = nI n := fun n hn q => by
    subst q
    rcases h with z | z
    · exact nI_pos (by omega) z
    · exact nI_ge (a := n) (b := 23) hn (by decide) z
  have hin : g_X10_isIn x 4 10 = 0 := by
    rw [in_0]
    rintro ⟨q1, q2⟩
    rw [Int32.le_iff_toInt_le] at q1 q2
    have e1 : (4 : Int32).toInt = 4 := rfl
    have e2 : (10 : Int32).toInt = 10 := rfl
    rcases h with z | z
    · rw [Int32.lt_iff_toInt_lt] at z
      have e0 : (0 : Int32).toInt = 0 := rfl
      omega
    · rw [Int32.le_iff_toInt_le] at z
      have e0 : (23 : Int32).toInt = 23 := rfl
      omega
  unfold g_X10_isFine
  rw [if_neg h1, if_neg (show ¬ x = 0 from ne 0 (by decide)), if_neg (show ¬ x = 18 from ne 18 (by decide)), if_neg (show ¬ x = 15 from ne 15 (by decide)), if_neg (show ¬ x = 17 from ne 17 (by decide))]
  by_cases q : g_X10_isRegister a = 0
  · rw [if_pos q]
  · rw [if_neg q, if_neg (show ¬ x = 2 from ne 2 (by decide)), if_neg (show ¬ x = 16 from ne 16 (by decide)), if_neg (show ¬ x = 20 from ne 20 (by decide)), if_neg (show ¬ x = 3 from ne 3 (by decide)), if_neg (show ¬ x = 11 from ne 11 (by decide)), if_neg (show ¬ x = 13 from ne 13 (by decide)), if_neg (show ¬ x = 14 from ne 14 (by decide)), if_pos hin, if_neg (show ¬ x = 12 from ne 12 (by decide)), if_neg (show ¬ x = 1 from ne 1 (by decide)), if_neg (show ¬ x = 19 from ne 19 (by decide)), if_neg (show ¬ x = 21 from ne 21 (by decide)), if_neg (show ¬ x = 22 from ne 22 (by decide))]
theorem instr_fine {F : Nat} {x a b c : Int32} {u : rg_U} (h : ¬ x = -1) : g_X9_isInstruction F x a b c u = some (g_X10_isFine x a b c) := by
  by_cases h0 : x < 0
  · unfold g_X9_isInstruction
    rw [if_pos h0, fine_out h (Or.inl h0)]
  · by_cases h23 : (23 : Int32) ≤ x
    · unfold g_X9_isInstruction
      rw [if_neg h0, if_pos h23, fine_out h (Or.inr h23)]
    · obtain ⟨k, hk, rfl⟩ := nI_of h0
      have hk : k < 23 := Nat.not_le.mp fun q => h23 (nI_le (a := 23) (b := k) q hk)
      rw [ins_eq hk, fine_eq hk]
/-! would, gap, sparing -/
theorem m_halvings {F k : Nat} {u : rg_U} (h0 : 0 < k) (hk : k < 2 ^ 31) (hF : 31 < F) : g_X10_halvings F (nI k) u = some (nI (tz k)) := by
  obtain ⟨s1, s2, s3⟩ := tz_spec h0 hk
  unfold g_X10_halvings
  have h := lp_up (body := fun (s : Int32) => g_X10_halvings_l2 F (nI k) u s) (fun z => nI z) (tz k) (nI (tz k)) (fun z hz => by
    show g_X10_halvings_l2 F (nI k) u (nI z) = _
    unfold g_X10_halvings_l2
    rw [show (dx_shr (nI k) (nI z) &&& 1) = nI (k / 2 ^ z % 2) from bit_at hk (by omega), s1 z hz, if_pos nI_0, nI_1]) (by
    show g_X10_halvings_l2 F (nI k) u (nI (tz k)) = _
    unfold g_X10_halvings_l2
    rw [show (dx_shr (nI k) (nI (tz k)) &&& 1) = nI (k / 2 ^ (tz k) % 2) from bit_at hk (by omega), s2, if_neg (by decide)]) F 0 (Nat.zero_le _) (by omega)
  rw [nI_0] at h
  rw [h]
  rfl
theorem m_goesWith {F k d : Nat} {u : rg_U} (h0 : 0 < k) (hk : k ≤ 3000) (hd : d ≤ 8) (hF : 31 < F) : g_X10_goesWith F (nI k) (nI d) u = some (nI (gw k d)) := by
  unfold g_X10_goesWith
  rw [m_halvings h0 (by omega) hF, ob_i, show dx_shl (nI d) (nI (tz k)) = nI (d * 2 ^ tz k) from shl_tz h0 hk hd, nI_add]
  rfl
theorem m_wouldBe {F k now d : Nat} {u : rg_U} (hk : k ≤ 3000) (hn : now ≤ 3000) (hd : d ≤ 8) (hF : 31 < F) : g_X10_wouldBe F (nI k) (nI now) (nI d) u = some (if wb k now d then 1 else 0) := by
  unfold g_X10_wouldBe
  by_cases h0 : k = 0
  · subst h0; rfl
  · rw [if_neg (nI_ne0 (by omega) (by omega)), m_goesWith (by omega) hk hd hF, ob_i]
    have hg := gw_le (by omega : 0 < k) hk hd
    rw [wb_pos (by omega)]
    by_cases q : now < gw k d
    · rw [if_neg (nI_ge q (by omega)), if_pos (decide_eq_true q)]
    · rw [if_pos (nI_le (by omega) (by omega)), if_neg (by simpa using q)]
theorem m_one {p : Bool} : g_X10_one (if p then 1 else 0) = if p then 1 else 0 := by cases p <;> rfl
theorem m_wouldOf {F U E T : Nat} {u : rg_U} (hU : 0 < U) (hU2 : U ≤ 64) (hE : E ≤ 8) (hT : T ≤ 3000) (hF : 10000 < F) : g_X10_wouldOf F (nI U) (nI E) (nI T) u = some (nI (wc (T / U) E (T / U + 1))) := by
  have hd : T / U ≤ 3000 := Nat.le_trans (Nat.div_le_self T U) hT
  have hdiv : nI T / nI U = nI (T / U) := pk_div (by omega) hU (by omega)
  have hn0 : ¬ nI U = 0 := nI_ne0 hU (by omega)
  unfold g_X10_wouldOf
  have h := lp_up (body := fun (s : Int32 × Int32) => g_X10_wouldOf_l6 F (nI U) (nI E) (nI T) u s.1 s.2) (fun k => (nI (wc (T / U) E k), nI k)) (T / U + 1) (nI (wc (T / U) E (T / U + 1))) (fun k hk => by
    show g_X10_wouldOf_l6 F (nI U) (nI E) (nI T) u (nI (wc (T / U) E k)) (nI k) = _
    unfold g_X10_wouldOf_l6
    rw [ck_t hn0, hdiv, if_neg (nI_nlt (by omega) (by omega)), ck_t hn0, m_wouldBe (by omega) hd hE (by omega), ob_i, m_one, nI_1]
    congr 3
    by_cases q : wb k (T / U) E = true
    · rw [if_pos q, wc_yes q, nI_1]
    · rw [if_neg q, wc_no (by simpa using q)]
      show nI _ + nI 0 = _
      rw [nI_add]; rfl) (by
    show g_X10_wouldOf_l6 F (nI U) (nI E) (nI T) u (nI (wc (T / U) E (T / U + 1))) (nI (T / U + 1)) = _
    unfold g_X10_wouldOf_l6
    rw [ck_t hn0, hdiv, if_pos (nI_lt (by omega) (by omega))]) F 0 (Nat.zero_le _) (by omega)
  rw [show (nI (wc (T / U) E 0), nI 0) = ((0 : Int32), (0 : Int32)) from rfl] at h
  rw [h]
  rfl
theorem c_goesWith {k d : Nat} (h0 : 0 < k) (hk : k ≤ 3000) (hd : d ≤ 8) : g_X2_goesWith (nI k) (nI d) = nI (gw k d) := by
  unfold g_X2_goesWith
  rw [lowbit k (by omega) h0, pk_mul, nI_add]
  rfl
theorem c_still {k d n : Nat} (h0 : 0 < k) (hk : k ≤ 3000) (hd : d ≤ 8) (hn : n ≤ 3000) : g_X2_isHeldStill (nI k) (nI d) (nI n) = if wb k n d then 1 else 0 := by
  unfold g_X2_isHeldStill
  rw [c_goesWith h0 hk hd]
  have hg := gw_le h0 hk hd
  rw [wb_pos h0]
  by_cases q : n < gw k d
  · rw [if_neg (nI_ge q (by omega)), if_pos (decide_eq_true q)]
  · rw [if_pos (nI_le (by omega) (by omega)), if_neg (by simpa using q)]
theorem wc_1 (now d : Nat) : wc now d 1 = 1 := rfl
theorem c_wouldBeHeld {F U E T : Nat} {u : rg_U} (hU : 0 < U) (hU2 : U ≤ 64) (hE : E ≤ 8) (hT : T ≤ 3000) (hF : 10000 < F) : g_X9_wouldBeHeld F (nI U) (nI E) (nI T) u = some (nI (wc (T / U) E (T / U + 1))) := by
  have hd : T / U ≤ 3000 := Nat.le_trans (Nat.div_le_self T U) hT
  have hdiv : nI T / nI U = nI (T / U) := pk_div (by omega) hU (by omega)
  have hn0 : ¬ nI U = 0 := nI_ne0 hU (by omega)
  unfold g_X9_wouldBeHeld
  rw [if_pos (show (1 : Int32) ≤ nI U from nI_le (a := 1) hU (by omega)), ck_t hn0, hdiv]
  generalize T / U = n at *
  have h := lp_up (body := fun (s : Int32 × Int32) => g_X9_wouldBeHeld_l17 F (nI E) (nI n) u s.1 s.2) (fun k => (nI (wc n E (k + 1)), nI (k + 1))) n (nI (wc n E (n + 1))) (fun k hk => by
    show g_X9_wouldBeHeld_l17 F (nI E) (nI n) u (nI (wc n E (k + 1))) (nI (k + 1)) = _
    unfold g_X9_wouldBeHeld_l17
    rw [if_neg (nI_nlt (by omega) (by omega)), c_still (by omega) (by omega) hE hd]
    by_cases q : wb (k + 1) n E = true
    · rw [if_pos q, if_neg (by decide), wc_yes q]
      unfold g_X9_wouldBeHeld_j36
      rw [nI_1, nI_1]
    · rw [if_neg q, if_pos rfl, wc_no (k := k + 1) (by simpa using q)]
      unfold g_X9_wouldBeHeld_j36
      rw [nI_1]) (by
    show g_X9_wouldBeHeld_l17 F (nI E) (nI n) u (nI (wc n E (n + 1))) (nI (n + 1)) = _
    unfold g_X9_wouldBeHeld_l17
    rw [if_pos (nI_lt (by omega) (by omega))]) F 0 (Nat.zero_le _) (by omega)
  rw [show (nI (wc n E (0 + 1)), nI (0 + 1)) = ((1 : Int32), (1 : Int32)) from rfl] at h
  rw [h]
  rfl
theorem in_s {x y : Int32} (h : ¬ g_X10_isSpacing x y = 0) : ∃ U E : Nat, x = nI U ∧ y = nI E ∧ 0 < U ∧ U ≤ 64 ∧ 0 < E ∧ E ≤ 8 := by
  rw [sp_iff] at h
  by_cases q : g_X10_isIn x 1 64 = 0
  · rw [if_pos q] at h; exact absurd rfl h
  · rw [if_neg q] at h
    obtain ⟨U, e1, h1, h2⟩ := in_nat q (by decide)
    obtain ⟨E, e2, h3, h4⟩ := in_nat h (by decide)
    have z1 : (1 : Int32).toInt = 1 := rfl
    have z2 : (64 : Int32).toInt = 64 := rfl
    have z3 : (8 : Int32).toInt = 8 := rfl
    exact ⟨U, E, e1, e2, by omega, by omega, by omega, by omega⟩
theorem in_t {x : Int32} (h : ¬ g_X10_isIn x 0 3000 = 0) : ∃ T : Nat, x = nI T ∧ T ≤ 3000 := by
  obtain ⟨T, e1, h1, h2⟩ := in_nat h (by decide)
  have z2 : (3000 : Int32).toInt = 3000 := rfl
  exact ⟨T, e1, by omega⟩
theorem in_d {x : Int32} (h : ¬ g_X10_isIn x 1 8 = 0) : ∃ E : Nat, x = nI E ∧ 0 < E ∧ E ≤ 8 := by
  obtain ⟨E, e1, h1, h2⟩ := in_nat h (by decide)
  have z1 : (1 : Int32).toInt = 1 := rfl
  have z2 : (8 : Int32).toInt = 8 := rfl
  exact ⟨E, e1, by omega, by omega⟩
/-- the class asks the same of a unit, a depth and a time -/
theorem cl_spt {x y z : Int32} {α : Type} {a b : α} : (if g_X9_isUnit x = 0 then a else if g_X9_isDepth y = 0 then a else if g_X9_isAnyTime z = 0 then a else b) = (if g_X10_isSpacing x y = 0 then a else if g_X10_isIn z 0 3000 = 0 then a else b) := by
  rw [cl_unit, cl_depth, cl_time, sp_iff]
  by_cases q : g_X10_isIn x 1 64 = 0
  · rw [if_pos q, if_pos q, if_pos rfl]
  · rw [if_neg q, if_neg q]
theorem would_all {F : Nat} (hF : 10000 < F) (x y z : Int32) (u v : rg_U) : ∃ r, g_X9_would F x y z u = some r ∧ g_X10_would F x y z v = some r := by
  unfold g_X9_would g_X10_would
  rw [cl_spt]
  by_cases h1 : g_X10_isSpacing x y = 0
  · exact ⟨-1, by rw [if_pos h1], by rw [if_pos h1]⟩
  rw [if_neg h1, if_neg h1]
  by_cases h2 : g_X10_isIn z 0 3000 = 0
  · exact ⟨-1, by rw [if_pos h2], by rw [if_pos h2]⟩
  rw [if_neg h2, if_neg h2]
  obtain ⟨U, E, rfl, rfl, a1, a2, a3, a4⟩ := in_s h1
  obtain ⟨T, rfl, b1⟩ := in_t h2
  exact ⟨_, by rw [c_wouldBeHeld a1 a2 a4 b1 hF]; rfl, by rw [m_wouldOf a1 a2 a4 b1 hF]; rfl⟩
