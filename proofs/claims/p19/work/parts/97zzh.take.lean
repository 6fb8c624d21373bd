/-! the class: a run is copied -/
section XZ
variable {F o0 o1 n k : Nat} {u w : rg_U}
/-- rows 1 .. k of o1 are copied to o0, n of each -/
def CPd (u w : rg_U) (o0 o1 k n : Nat) : Prop := same0 u w ∧ ∀ j i, w.2.1 j i = if (o0 + 1 ≤ j ∧ j ≤ o0 + k) ∧ i < n then u.2.1 (j - o0 + o1) i else u.2.1 j i
theorem cp_0 : CPd u u o0 o1 0 n := ⟨same0_r, fun j i => by rw [if_neg (by omega)]⟩
theorem cp_next {N : Nat} (h : CPd u w o0 o1 k n) (hd : o0 + 11 < o1 ∨ o1 + 11 < o0) (hk : k < 11) (hn : n ≤ N) (hN : N < 2 ^ 31) : ∃ w', g_X9_copyRow F (o1 + (k + 1)) N (o0 + (k + 1)) N (nI n) w = some w' ∧ CPd u w' o0 o1 (k + 1) n := by
  obtain ⟨w', e, s, ha⟩ := c_copyRow (F := F) (o0 := o1 + (k + 1)) (o1 := o0 + (k + 1)) (u := w) hn hN
  refine ⟨w', e, ⟨s.1.trans h.1.1, s.2.trans h.1.2⟩, fun j i => ?_⟩
  rw [ha]
  by_cases q : j = o0 + (k + 1) ∧ i < n
  · rw [if_pos q, if_pos (by omega), h.2, if_neg (by omega), show j - o0 + o1 = o1 + (k + 1) by omega]
  · rw [if_neg q, h.2]
    by_cases q2 : (o0 + 1 ≤ j ∧ j ≤ o0 + k) ∧ i < n
    · rw [if_pos q2, if_pos (by omega)]
    · rw [if_neg q2, if_neg (by omega)]
theorem cp_f {s : Nat} {x : Int32} (h : CPd u w o0 o1 k n) (hs : rF u o0 s = x) : rF w o0 s = x := by
  rw [← hs]
  unfold rF
  rw [h.1.1]
theorem c_logTake (hn : rF u o1 5 = nI n) (h8 : n ≤ 800) (hd : o0 + 11 < o1 ∨ o1 + 11 < o0) : ∃ w, g_X3_takeFrom F o0 o1 u = some w ∧ CPd (sF u o0 5 (nI n)) w o0 o1 5 n := by
  unfold g_X3_takeFrom
  rw [hn, lt1_i]
  have e0 : rF (sF u o0 5 (nI n)) o0 5 = nI n := sF_y
  obtain ⟨w1, a1, h1⟩ := cp_next (F := F) (N := 800) (cp_0 (u := sF u o0 5 (nI n)) (o0 := o0) (o1 := o1) (n := n)) hd (by omega) h8 (by decide)
  rw [e0, a1, ob_i, cp_f h1 e0]
  obtain ⟨w2, a2, h2⟩ := cp_next (F := F) (N := 800) h1 hd (by omega) h8 (by decide)
  rw [a2, ob_i, cp_f h2 e0]
  obtain ⟨w3, a3, h3⟩ := cp_next (F := F) (N := 800) h2 hd (by omega) h8 (by decide)
  rw [a3, ob_i, cp_f h3 e0]
  obtain ⟨w4, a4, h4⟩ := cp_next (F := F) (N := 800) h3 hd (by omega) h8 (by decide)
  rw [a4, ob_i, cp_f h4 e0]
  obtain ⟨w5, a5, h5⟩ := cp_next (F := F) (N := 800) h4 hd (by omega) h8 (by decide)
  rw [a5, ob_i]
  exact ⟨w5, rfl, h5⟩
theorem c_putsTake (hn : rF u o1 11 = nI n) (h8 : n ≤ 3800) (hd : o0 + 11 < o1 ∨ o1 + 11 < o0) : ∃ w, g_X6_takeFrom F o0 o1 u = some w ∧ same0 (sF u o0 11 (nI n)) w ∧ ∀ j i, w.2.1 j i = if (o0 + 1 ≤ j ∧ j ≤ o0 + 10) ∧ i < n then u.2.1 (j - o0 + o1) i else if j = o0 + 11 ∧ i < 40 then u.2.1 (o1 + 11) i else u.2.1 j i := by
  unfold g_X6_takeFrom
  rw [hn, lt1_i]
  have e0 : rF (sF u o0 11 (nI n)) o0 11 = nI n := sF_y
  obtain ⟨w1, a1, h1⟩ := cp_next (F := F) (N := 3800) (cp_0 (u := sF u o0 11 (nI n)) (o0 := o0) (o1 := o1) (n := n)) hd (by omega) h8 (by decide)
  rw [e0, a1, ob_i, cp_f h1 e0]
  obtain ⟨w2, a2, h2⟩ := cp_next (F := F) (N := 3800) h1 hd (by omega) h8 (by decide)
  rw [a2, ob_i, cp_f h2 e0]
  obtain ⟨w3, a3, h3⟩ := cp_next (F := F) (N := 3800) h2 hd (by omega) h8 (by decide)
  rw [a3, ob_i, cp_f h3 e0]
  obtain ⟨w4, a4, h4⟩ := cp_next (F := F) (N := 3800) h3 hd (by omega) h8 (by decide)
  rw [a4, ob_i, cp_f h4 e0]
  obtain ⟨w5, a5, h5⟩ := cp_next (F := F) (N := 3800) h4 hd (by omega) h8 (by decide)
  rw [a5, ob_i, cp_f h5 e0]
  obtain ⟨w6, a6, h6⟩ := cp_next (F := F) (N := 3800) h5 hd (by omega) h8 (by decide)
  rw [a6, ob_i, cp_f h6 e0]
  obtain ⟨w7, a7, h7⟩ := cp_next (F := F) (N := 3800) h6 hd (by omega) h8 (by decide)
  rw [a7, ob_i, cp_f h7 e0]
  obtain ⟨w8, a8, h8'⟩ := cp_next (F := F) (N := 3800) h7 hd (by omega) h8 (by decide)
  rw [a8, ob_i, cp_f h8' e0]
  obtain ⟨w9, a9, h9⟩ := cp_next (F := F) (N := 3800) h8' hd (by omega) h8 (by decide)
  rw [a9, ob_i, cp_f h9 e0]
  obtain ⟨w10, a10, h10⟩ := cp_next (F := F) (N := 3800) h9 hd (by omega) h8 (by decide)
  rw [a10, ob_i]
  obtain ⟨w11, a11, s11, h11⟩ := c_copyRow (F := F) (o0 := o1 + 11) (o1 := o0 + 11) (N := 40) (n := 40) (u := w10) (Nat.le_refl _) (by decide)
  rw [show g_X9_copyRow F (o1 + 11) 40 (o0 + 11) 40 40 w10 = some w11 from a11, ob_i]
  refine ⟨w11, rfl, ⟨s11.1.trans h10.1.1, s11.2.trans h10.1.2⟩, fun j i => ?_⟩
  rw [h11]
  have u0 : ∀ j i, (sF u o0 11 (nI n)).2.1 j i = u.2.1 j i := fun _ _ => rfl
  by_cases q : j = o0 + 11 ∧ i < 40
  · rw [if_pos q, if_neg (by omega), if_pos q, h10.2, if_neg (by omega), u0]
  · rw [if_neg q, h10.2]
    by_cases q2 : (o0 + 1 ≤ j ∧ j ≤ o0 + 10) ∧ i < n
    · rw [if_pos q2, if_pos q2, u0]
    · rw [if_neg q2, if_neg q2, if_neg q, u0]
theorem c_holdTake (hn : rF u o1 1 = nI n) (h8 : n ≤ 64) (hd : o0 + 11 < o1 ∨ o1 + 11 < o0) : ∃ w, g_X2_takeFrom F o0 o1 u = some w ∧ w.2.2 = u.2.2 ∧ (∀ j i, w.2.1 j i = if j = o0 + 1 ∧ i < n then u.2.1 (o1 + 1) i else u.2.1 j i) ∧ (∀ k, k < 100 * o0 + 1 ∨ 100 * o0 + 4 < k → w.1 k = u.1 k) ∧ rF w o0 1 = rF u o1 1 ∧ rF w o0 2 = rF u o1 2 ∧ rF w o0 3 = rF u o1 3 ∧ rF w o0 4 = rF u o1 4 := by
  unfold g_X2_takeFrom
  rw [hn, lt1_i]
  have e0 : rF (sF u o0 1 (nI n)) o0 1 = nI n := sF_y
  obtain ⟨w1, a1, s1, h1⟩ := c_copyRow (F := F) (o0 := o1 + 1) (o1 := o0 + 1) (N := 64) (n := n) (u := sF u o0 1 (nI n)) h8 (by decide)
  rw [e0, a1, ob_i, lt1_i, lt1_i, lt1_i]
  have f1 : ∀ k, k ≠ 100 * o0 + 1 → w1.1 k = u.1 k := fun k hk => by rw [s1.1, sF_n hk]
  have e2 : rF w1 o1 2 = rF u o1 2 := f1 _ (by omega)
  have e3 : rF (sF w1 o0 2 (rF u o1 2)) o1 3 = rF u o1 3 := by
    show (sF w1 o0 2 _).1 (100 * o1 + 3) = _
    rw [sF_n (by omega)]
    exact f1 _ (by omega)
  rw [e2, e3]
  have e4 : rF (sF (sF w1 o0 2 (rF u o1 2)) o0 3 (rF u o1 3)) o1 4 = rF u o1 4 := by
    show (sF (sF w1 o0 2 _) o0 3 _).1 (100 * o1 + 4) = _
    rw [sF_n (by omega), sF_n (by omega)]
    exact f1 _ (by omega)
  rw [e4]
  refine ⟨_, rfl, s1.2, fun j i => h1 j i, fun k hk => ?_, ?_, ?_, ?_, sF_y⟩
  · rw [sF_n (by omega), sF_n (by omega), sF_n (by omega)]
    exact f1 k (by omega)
  · show (sF (sF (sF w1 o0 2 _) o0 3 _) o0 4 _).1 (100 * o0 + 1) = _
    rw [sF_n (by omega), sF_n (by omega), sF_n (by omega), s1.1]
    first | exact e0 | exact e0.trans hn.symm
  · show (sF (sF (sF w1 o0 2 _) o0 3 _) o0 4 _).1 (100 * o0 + 2) = _
    rw [sF_n (by omega), sF_n (by omega)]
    exact sF_y
  · show (sF (sF (sF w1 o0 2 _) o0 3 _) o0 4 _).1 (100 * o0 + 3) = _
    rw [sF_n (by omega)]
    exact sF_y
/-- how far the rows of a run are taken -/
def rowN (z L P C H T : Nat) : Nat := if z ≤ 5 then 64 else if z ≤ 11 then L else if z ≤ 22 then P else if z = 23 then 40 else if z ≤ 27 then C else if z ≤ 29 then H else T + 1
theorem c_take7 {L P C H T : Nat} {x : Int32} (hd : o0 + 33 < o1 ∨ o1 + 33 < o0) (hL : rF u (o1 + 6) 5 = nI L) (hL8 : L ≤ 800) (hP : rF u (o1 + 12) 11 = nI P) (hP8 : P ≤ 3800) (hC : rF u (o1 + 24) 3 = nI C) (hC8 : C ≤ 100) (hH : rF u (o1 + 28) 1 = nI H) (hH8 : H ≤ 64) (hT : rF u o1 9 = nI T) (hT8 : T ≤ 3000) (hF : 10000 < F) : ∃ w, g_X7_takeFrom F o0 o1 x u = some w ∧ w.2.2 = u.2.2 ∧ (∀ j, (j ≤ o0 ∨ o0 + 33 < j) → w.2.1 j = u.2.1 j) ∧ (∀ k, (k < 100 * o0 ∨ 100 * (o0 + 34) ≤ k) → w.1 k = u.1 k) ∧ (∀ z i, 2 ≤ z → z ≤ 33 → z ≠ 6 → z ≠ 12 → z ≠ 24 → z ≠ 28 → i < rowN z L P C H T → w.2.1 (o0 + z) i = u.2.1 (o1 + z) i) ∧ (rF w (o0 + 6) 5 = nI L ∧ rF w (o0 + 12) 11 = nI P ∧ rF w (o0 + 24) 3 = nI C ∧ rF w (o0 + 28) 1 = nI H ∧ rF w (o0 + 28) 2 = rF u (o1 + 28) 2 ∧ rF w (o0 + 28) 3 = rF u (o1 + 28) 3 ∧ rF w (o0 + 28) 4 = rF u (o1 + 28) 4) ∧ rF w o0 9 = nI T ∧ rF w o0 10 = rF u o1 10 ∧ rF w o0 12 = rF u o1 12 ∧ rF w o0 13 = rF u o1 13 ∧ rF w o0 14 = x := by
  unfold g_X7_takeFrom
  obtain ⟨w1, a1, s1, h1⟩ := c_takeFromP (F := F) (o := o0 + 1) (p := o1 + 1) (u := u) (by omega) (by omega)
  rw [a1, ob_i]
  have f1 : ∀ k, w1.1 k = u.1 k := fun k => by rw [s1.1]
  obtain ⟨w2, a2, s2, h2⟩ := c_logTake (F := F) (o0 := o0 + 6) (o1 := o1 + 6) (u := w1) (n := L) ((f1 _).trans hL) hL8 (by omega)
  rw [a2, ob_i]
  have f2 : ∀ k, k ≠ 100 * (o0 + 6) + 5 → w2.1 k = u.1 k := fun k hk => by rw [s2.1, sF_n hk, f1]
  obtain ⟨w3, a3, s3, h3⟩ := c_putsTake (F := F) (o0 := o0 + 12) (o1 := o1 + 12) (u := w2) (n := P) ((f2 _ (by omega)).trans hP) hP8 (by omega)
  rw [a3, ob_i]
  have f3 : ∀ k, k ≠ 100 * (o0 + 6) + 5 → k ≠ 100 * (o0 + 12) + 11 → w3.1 k = u.1 k := fun k k1 k2 => by rw [s3.1, sF_n k2, f2 k k1]
  obtain ⟨w4, a4, s4, h4⟩ := c_callsTake (F := F) (o0 := o0 + 24) (o1 := o1 + 24) (u := w3) (n := C) ((f3 _ (by omega) (by omega)).trans hC) hC8 (by omega)
  rw [a4, ob_i]
  have f4 : ∀ k, k ≠ 100 * (o0 + 6) + 5 → k ≠ 100 * (o0 + 12) + 11 → k ≠ 100 * (o0 + 24) + 3 → w4.1 k = u.1 k := fun k k1 k2 k3 => by rw [s4.1, sF_n k3, f3 k k1 k2]
  obtain ⟨w5, a5, s5, h5, f5, g1, g2, g3, g4⟩ := c_holdTake (F := F) (o0 := o0 + 28) (o1 := o1 + 28) (u := w4) (n := H) ((f4 _ (by omega) (by omega) (by omega)).trans hH) hH8 (by omega)
  rw [a5, ob_i, lt1_i]
  have f5' : ∀ k, k ≠ 100 * (o0 + 6) + 5 → k ≠ 100 * (o0 + 12) + 11 → k ≠ 100 * (o0 + 24) + 3 → (k < 100 * (o0 + 28) + 1 ∨ 100 * (o0 + 28) + 4 < k) → w5.1 k = u.1 k := fun k k1 k2 k3 k4 => (f5 k k4).trans (f4 k k1 k2 k3)
  have e9 : rF w5 o1 9 = nI T := (f5' _ (by omega) (by omega) (by omega) (by omega)).trans hT
  rw [e9]
  have e9' : rF (sF w5 o0 9 (nI T)) o0 9 = nI T := sF_y
  obtain ⟨w6, a6, s6, h6⟩ := c_copyRow (F := F) (o0 := o1 + 30) (o1 := o0 + 30) (N := 3001) (n := T + 1) (u := sF w5 o0 9 (nI T)) (by omega) (by decide)
  have e96 : rF w6 o0 9 = nI T := by
    unfold rF
    rw [s6.1]
    exact e9'
  rw [e9', nI_1, a6, ob_i, e96, nI_1]
  obtain ⟨w7, a7, s7, h7⟩ := c_copyRow (F := F) (o0 := o1 + 31) (o1 := o0 + 31) (N := 3001) (n := T + 1) (u := w6) (by omega) (by decide)
  have e97 : rF w7 o0 9 = nI T := by
    unfold rF
    rw [s7.1]
    exact e96
  rw [a7, ob_i, e97, nI_1]
  obtain ⟨w8, a8, s8, h8⟩ := c_copyRow (F := F) (o0 := o1 + 32) (o1 := o0 + 32) (N := 3001) (n := T + 1) (u := w7) (by omega) (by decide)
  have e98 : rF w8 o0 9 = nI T := by
    unfold rF
    rw [s8.1]
    exact e97
  rw [a8, ob_i, e98, nI_1]
  obtain ⟨w9, a9, s9, h9⟩ := c_copyRow (F := F) (o0 := o1 + 33) (o1 := o0 + 33) (N := 3001) (n := T + 1) (u := w8) (by omega) (by decide)
  rw [a9, ob_i, lt1_i, lt1_i, lt1_i, lt1_i]
  have f9 : ∀ k, w9.1 k = (sF w5 o0 9 (nI T)).1 k := fun k => by rw [s9.1, s8.1, s7.1, s6.1]
  have F9 : ∀ k, k ≠ 100 * o0 + 9 → k ≠ 100 * (o0 + 6) + 5 → k ≠ 100 * (o0 + 12) + 11 → k ≠ 100 * (o0 + 24) + 3 → (k < 100 * (o0 + 28) + 1 ∨ 100 * (o0 + 28) + 4 < k) → w9.1 k = u.1 k := fun k k0 k1 k2 k3 k4 => by rw [f9, sF_n k0, f5' k k1 k2 k3 k4]
  have x10 : rF w9 o1 10 = rF u o1 10 := F9 _ (by omega) (by omega) (by omega) (by omega) (by omega)
  have x12 : rF (sF w9 o0 10 (rF u o1 10)) o1 12 = rF u o1 12 := by
    show (sF w9 o0 10 _).1 (100 * o1 + 12) = _
    rw [sF_n (by omega)]
    exact F9 _ (by omega) (by omega) (by omega) (by omega) (by omega)
  rw [x10, x12]
  have x13 : rF (sF (sF w9 o0 10 (rF u o1 10)) o0 12 (rF u o1 12)) o1 13 = rF u o1 13 := by
    show (sF (sF w9 o0 10 _) o0 12 _).1 (100 * o1 + 13) = _
    rw [sF_n (by omega), sF_n (by omega)]
    exact F9 _ (by omega) (by omega) (by omega) (by omega) (by omega)
  rw [x13]
  -- the arrays
  have A9 : ∀ j i, w9.2.1 j i = if (o0 + 30 ≤ j ∧ j ≤ o0 + 33) ∧ i < T + 1 then w5.2.1 (j - o0 + o1) i else w5.2.1 j i := fun j i => by
    have u0 : ∀ j i, (sF w5 o0 9 (nI T)).2.1 j i = w5.2.1 j i := fun _ _ => rfl
    rw [h9]
    by_cases z : i < T + 1
    · by_cases j33 : j = o0 + 33
      · subst j33
        rw [if_pos ⟨rfl, z⟩, h8, if_neg (by omega), h7, if_neg (by omega), h6, if_neg (by omega), u0, if_pos (by omega), show o0 + 33 - o0 + o1 = o1 + 33 by omega]
      rw [if_neg (fun y => j33 y.1), h8]
      by_cases j32 : j = o0 + 32
      · subst j32
        rw [if_pos ⟨rfl, z⟩, h7, if_neg (by omega), h6, if_neg (by omega), u0, if_pos (by omega), show o0 + 32 - o0 + o1 = o1 + 32 by omega]
      rw [if_neg (fun y => j32 y.1), h7]
      by_cases j31 : j = o0 + 31
      · subst j31
        rw [if_pos ⟨rfl, z⟩, h6, if_neg (by omega), u0, if_pos (by omega), show o0 + 31 - o0 + o1 = o1 + 31 by omega]
      rw [if_neg (fun y => j31 y.1), h6]
      by_cases j30 : j = o0 + 30
      · subst j30
        rw [if_pos ⟨rfl, z⟩, u0, if_pos (by omega), show o0 + 30 - o0 + o1 = o1 + 30 by omega]
      rw [if_neg (fun y => j30 y.1), u0, if_neg (by omega)]
    · rw [if_neg (fun y => z y.2), h8, if_neg (fun y => z y.2), h7, if_neg (fun y => z y.2), h6, if_neg (fun y => z y.2), u0, if_neg (fun y => z y.2)]
  have A5 : ∀ j i, (j ≤ o0 + 28 ∨ o0 + 30 ≤ j) → w5.2.1 j i = w4.2.1 j i := fun j i hj => by rw [h5, if_neg (by omega)]
  have A4 : ∀ j i, (j ≤ o0 + 24 ∨ o0 + 28 ≤ j) → w4.2.1 j i = w3.2.1 j i := fun j i hj => by rw [h4, if_neg (by omega)]
  have A3 : ∀ j i, (j ≤ o0 + 12 ∨ o0 + 24 ≤ j) → w3.2.1 j i = w2.2.1 j i := fun j i hj => by rw [h3, if_neg (by omega), if_neg (by omega)]
  have A2 : ∀ j i, (j ≤ o0 + 6 ∨ o0 + 12 ≤ j) → w2.2.1 j i = w1.2.1 j i := fun j i hj => by rw [h2, if_neg (by omega)]; rfl
  have A1 : ∀ j i, (j ≤ o0 + 1 ∨ o0 + 6 ≤ j) → w1.2.1 j i = u.2.1 j i := fun j i hj => by rw [h1, if_neg (by omega)]
  have out : ∀ j i, (j ≤ o0 ∨ o0 + 33 < j) → w5.2.1 j i = u.2.1 j i := fun j i hj => by rw [A5 j i (by omega), A4 j i (by omega), A3 j i (by omega), A2 j i (by omega), A1 j i (by omega)]
  refine ⟨_, rfl, ?_, fun j hj => ?_, fun k hk => ?_, fun z i z1 z2 z3 z4 z5 z6 hi => ?_, ⟨?_, ?_, ?_, ?_, ?_, ?_, ?_⟩, ?_, ?_, ?_, ?_, sF_y⟩
  · show w9.2.2 = _
    rw [s9.2, s8.2, s7.2, s6.2]
    show w5.2.2 = _
    rw [s5, s4.2]
    show w3.2.2 = _
    rw [s3.2]
    show w2.2.2 = _
    rw [s2.2]
    show w1.2.2 = _
    exact s1.2
  · funext i
    show w9.2.1 j i = _
    rw [A9, if_neg (by omega), out j i hj]
  · rw [sF_n (by omega), sF_n (by omega), sF_n (by omega), sF_n (by omega)]
    exact F9 k (by omega) (by omega) (by omega) (by omega) (by omega)
  · show w9.2.1 (o0 + z) i = _
    unfold rowN at hi
    by_cases y5 : z ≤ 5
    · rw [if_pos y5] at hi
      rw [A9, if_neg (by omega), A5 _ _ (by omega), A4 _ _ (by omega), A3 _ _ (by omega), A2 _ _ (by omega), h1, if_pos (by omega), show o0 + z - (o0 + 1) + (o1 + 1) = o1 + z by omega]
    rw [if_neg y5] at hi
    by_cases y11 : z ≤ 11
    · rw [if_pos y11] at hi
      rw [A9, if_neg (by omega), A5 _ _ (by omega), A4 _ _ (by omega), A3 _ _ (by omega), h2, if_pos (by omega), show o0 + z - (o0 + 6) + (o1 + 6) = o1 + z by omega]
      show w1.2.1 (o1 + z) i = _
      rw [A1 _ _ (by omega)]
    rw [if_neg y11] at hi
    by_cases y22 : z ≤ 22
    · rw [if_pos y22] at hi
      rw [A9, if_neg (by omega), A5 _ _ (by omega), A4 _ _ (by omega), h3, if_pos (by omega), show o0 + z - (o0 + 12) + (o1 + 12) = o1 + z by omega, A2 _ _ (by omega), A1 _ _ (by omega)]
    rw [if_neg y22] at hi
    by_cases y23 : z = 23
    · rw [if_pos y23] at hi
      subst y23
      rw [A9, if_neg (by omega), A5 _ _ (by omega), A4 _ _ (by omega), h3, if_neg (by omega), if_pos (by omega), show o1 + 12 + 11 = o1 + 23 from rfl, A2 _ _ (by omega), A1 _ _ (by omega)]
    rw [if_neg y23] at hi
    by_cases y27 : z ≤ 27
    · rw [if_pos y27] at hi
      rw [A9, if_neg (by omega), A5 _ _ (by omega), h4, if_pos (by omega), show o0 + z - (o0 + 24) + (o1 + 24) = o1 + z by omega, A3 _ _ (by omega), A2 _ _ (by omega), A1 _ _ (by omega)]
    rw [if_neg y27] at hi
    by_cases y29 : z ≤ 29
    · rw [if_pos y29] at hi
      have e29 : z = 29 := by omega
      subst e29
      rw [A9, if_neg (by omega), h5, if_pos (by omega), show o1 + 28 + 1 = o1 + 29 from rfl, A4 _ _ (by omega), A3 _ _ (by omega), A2 _ _ (by omega), A1 _ _ (by omega)]
    rw [if_neg y29] at hi
    rw [A9, if_pos (by omega), show o0 + z - o0 + o1 = o1 + z by omega, out _ _ (by omega)]
  · show (sF (sF (sF (sF w9 o0 10 _) o0 12 _) o0 13 _) o0 14 _).1 (100 * (o0 + 6) + 5) = _
    rw [sF_n (by omega), sF_n (by omega), sF_n (by omega), sF_n (by omega), f9, sF_n (by omega), f5 _ (by omega), s4.1, sF_n (by omega), s3.1, sF_n (by omega), s2.1]
    exact sF_y
  · show (sF (sF (sF (sF w9 o0 10 _) o0 12 _) o0 13 _) o0 14 _).1 (100 * (o0 + 12) + 11) = _
    rw [sF_n (by omega), sF_n (by omega), sF_n (by omega), sF_n (by omega), f9, sF_n (by omega), f5 _ (by omega), s4.1, sF_n (by omega), s3.1]
    exact sF_y
  · show (sF (sF (sF (sF w9 o0 10 _) o0 12 _) o0 13 _) o0 14 _).1 (100 * (o0 + 24) + 3) = _
    rw [sF_n (by omega), sF_n (by omega), sF_n (by omega), sF_n (by omega), f9, sF_n (by omega), f5 _ (by omega), s4.1]
    exact sF_y
  · show (sF (sF (sF (sF w9 o0 10 _) o0 12 _) o0 13 _) o0 14 _).1 (100 * (o0 + 28) + 1) = _
    rw [sF_n (by omega), sF_n (by omega), sF_n (by omega), sF_n (by omega), f9, sF_n (by omega)]
    exact g1.trans ((f4 _ (by omega) (by omega) (by omega)).trans hH)
  · show (sF (sF (sF (sF w9 o0 10 _) o0 12 _) o0 13 _) o0 14 _).1 (100 * (o0 + 28) + 2) = _
    rw [sF_n (by omega), sF_n (by omega), sF_n (by omega), sF_n (by omega), f9, sF_n (by omega)]
    exact g2.trans (f4 _ (by omega) (by omega) (by omega))
  · show (sF (sF (sF (sF w9 o0 10 _) o0 12 _) o0 13 _) o0 14 _).1 (100 * (o0 + 28) + 3) = _
    rw [sF_n (by omega), sF_n (by omega), sF_n (by omega), sF_n (by omega), f9, sF_n (by omega)]
    exact g3.trans (f4 _ (by omega) (by omega) (by omega))
  · show (sF (sF (sF (sF w9 o0 10 _) o0 12 _) o0 13 _) o0 14 _).1 (100 * (o0 + 28) + 4) = _
    rw [sF_n (by omega), sF_n (by omega), sF_n (by omega), sF_n (by omega), f9, sF_n (by omega)]
    exact g4.trans (f4 _ (by omega) (by omega) (by omega))
  · show (sF (sF (sF (sF w9 o0 10 _) o0 12 _) o0 13 _) o0 14 _).1 (100 * o0 + 9) = _
    rw [sF_n (by omega), sF_n (by omega), sF_n (by omega), sF_n (by omega), f9]
    exact sF_y
  · show (sF (sF (sF (sF w9 o0 10 _) o0 12 _) o0 13 _) o0 14 _).1 (100 * o0 + 10) = _
    rw [sF_n (by omega), sF_n (by omega), sF_n (by omega)]
    exact sF_y
  · show (sF (sF (sF (sF w9 o0 10 _) o0 12 _) o0 13 _) o0 14 _).1 (100 * o0 + 12) = _
    rw [sF_n (by omega), sF_n (by omega)]
    exact sF_y
  · show (sF (sF (sF (sF w9 o0 10 _) o0 12 _) o0 13 _) o0 14 _).1 (100 * o0 + 13) = _
    rw [sF_n (by omega)]
    exact sF_y
end XZ
