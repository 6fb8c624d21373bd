section W_75
-- 97zzh.take
/-! the class: a run is copied -/
section XZ
variable {F o0 o1 n k : Nat} {u w : rg_U}
/-- rows 1 .. k of o1 are copied to o0, n of each -/
def CPd (u w : rg_U) (o0 o1 k n : Nat) : Prop := same0 u w ∧ ∀ j i, w.2.1 j i = if (o0 + 1 ≤ j ∧ j ≤ o0 + k) ∧ i < n then u.2.1 (j - o0 + o1) i else u.2.1 j i
theorem cp_0 : CPd u u o0 o1 0 n := ⟨same0_r, fun j i => by rw [if_neg (by omega)]⟩
theorem cp_next {N : Nat} (h : CPd u w o0 o1 k n) (hd : o0 + 11 < o1 ∨ o1 + 11 < o0) (hk : k < 11) (hn : n ≤ N) (hN : N < 2 ^ 31) : ∃ w', g_X9_copyRow F (o1 + (k + 1)) N (o0 + (k + 1)) N (nI n) w = some w' ∧ CPd u w' o0 o1 (k + 1) n := by
  obtain ⟨w', e, s, ha⟩ := c_copyRow (F := F) (o0 := o1 + (k + 1)) (o1 := o0 + (k + 1)) (u := w) hn hN
  refine ⟨w', e, ⟨s.1.trans h.1.1, s.2.trans h.1.2⟩, fun j i => ?_⟩
  rw [ha]
  by_cases q : j = o0 + (k + 1) ∧ i < n
  · rw [if_pos q, if_pos (by omega), h.2, if_neg (by omega), show j - o0 + o1 = o1 + (k + 1) by omega]
  · rw [if_neg q, h.2]
    by_cases q2 : (o0 + 1 ≤ j ∧ j ≤ o0 + k) ∧ i < n
    · rw [if_pos q2, if_pos (by omega)]
    · rw [if_neg q2, if_neg (by omega)]
theorem cp_f {s : Nat} {x : Int32} (h : CPd u w o0 o1 k n) (hs : rF u o0 s = x) : rF w o0 s = x := by
  rw [← hs]
  unfold rF
  rw [h.1.1]
theorem c_logTake (hn : rF u o1 5 = nI n) (h8 : n ≤ 800) (hd : o0 + 11 < o1 ∨ o1 + 11 < o0) : ∃ w, g_X3_takeFrom F o0 o1 u = some w ∧ CPd (sF u o0 5 (nI n)) w o0 o1 5 n := by
  unfold g_X3_takeFrom
  rw [hn, lt1_i]
  have e0 : rF (sF u o0 5 (nI n)) o0 5 = nI n := sF_y
  obtain ⟨w1, a1, h1⟩ := cp_next (F := F) (N := 800) (cp_0 (u := sF u o0 5 (nI n)) (o0 := o0) (o1 := o1) (n := n)) hd (by omega) h8 (by decide)
  rw [e0, a1, ob_i, cp_f h1 e0]
  obtain ⟨w2, a2, h2⟩ := cp_next (F := F) (N := 800) h1 hd (by omega) h8 (by decide)
  rw [a2, ob_i, cp_f h2 e0]
  obtain ⟨w3, a3, h3⟩ := cp_next (F := F) (N := 800) h2 hd (by omega) h8 (by decide)
  rw [a3, ob_i, cp_f h3 e0]
  obtain ⟨w4, a4, h4⟩ := cp_next (F := F) (N := 800) h3 hd (by omega) h8 (by decide)
  rw [a4, ob_i, cp_f h4 e0]
  obtain ⟨w5, a5, h5⟩ := cp_next (F := F) (N := 800) h4 hd (by omega) h8 (by decide)
  rw [a5, ob_i]
  exact ⟨w5, rfl, h5⟩
theorem c_putsTake (hn : rF u o1 11 = nI n) (h8 : n ≤ 3800) (hd : o0 + 11 < o1 ∨ o1 + 11 < o0) : ∃ w, g_X6_takeFrom F o0 o1 u = some w ∧ same0 (sF u o0 11 (nI n)) w ∧ ∀ j i, w.2.1 j i = if (o0 + 1 ≤ j ∧ j ≤ o0 + 10) ∧ i < n then u.2.1 (j - o0 + o1) i else if j = o0 + 11 ∧ i < 40 then u.2.1 (o1 + 11) i else u.2.1 j i := by
  unfold g_X6_takeFrom
  rw [hn, lt1_i]
  have e0 : rF (sF u o0 11 (nI n)) o0 11 = nI n := sF_y
  obtain ⟨w1, a1, h1⟩ := cp_next (F := F) (N := 3800) (cp_0 (u := sF u o0 11 (nI n)) (o0 := o0) (o1 := o1) (n := n)) hd (by omega) h8 (by decide)
  rw [e0, a1, ob_i, cp_f h1 e0]
  obtain ⟨w2, a2, h2⟩ := cp_next (F := F) (N := 3800) h1 hd (by omega) h8 (by decide)
  rw [a2, ob_i, cp_f h2 e0]
  obtain ⟨w3, a3, h3⟩ := cp_next (F := F) (N := 3800) h2 hd (by omega) h8 (by decide)
  rw [a3, ob_i, cp_f h3 e0]
  obtain ⟨w4, a4, h4⟩ := cp_next (F := F) (N := 3800) h3 hd (by omega) h8 (by decide)
  rw [a4, ob_i, cp_f h4 e0]
  obtain ⟨w5, a5, h5⟩ := cp_next (F := F) (N := 3800) h4 hd (by omega) h8 (by decide)
  rw [a5, ob_i, cp_f h5 e0]
  obtain ⟨w6, a6, h6⟩ := cp_next (F := F) (N := 3800) h5 hd (by omega) h8 (by decide)
  rw [a6, ob_i, cp_f h6 e0]
  obtain ⟨w7, a7, h7⟩ := cp_next (F := F) (N := 3800) h6 hd (by omega) h8 (by decide)
  rw [a7, ob_i, cp_f h7 e0]
  obtain ⟨w8, a8, h8'⟩ := cp_next (F := F) (N := 3800) h7 hd (by omega) h8 (by decide)
  rw [a8, ob_i, cp_f h8' e0]
  obtain ⟨w9, a9, h9⟩ := cp_next (F := F) (N := 3800) h8' hd (by omega) h8 (by decide)
  rw [a9, ob_i, cp_f h9 e0]
  obtain ⟨w10, a10, h10⟩ := cp_next (F := F) (N := 3800) h9 hd (by omega) h8 (by decide)
  rw [a10, ob_i]
  obtain ⟨w11, a11, s11, h11⟩ := c_copyRow (F := F) (o0 := o1 + 11) (o1 := o0 + 11) (N := 40) (n := 40) (u := w10) (Nat.le_refl _) (by decide)
  rw [show g_X9_copyRow F (o1 + 11) 40 (o0 + 11) 40 40 w10 = some w11 from a11, ob_i]
  refine ⟨w11, rfl, ⟨s11.1.trans h10.1.1, s11.2.trans h10.1.2⟩, fun j i => ?_⟩
  rw [h11]
  have u0 : ∀ j i, (sF u o0 11 (nI n)).2.1 j i = u.2.1 j i := fun _ _ => rfl
  by_cases q : j = o0 + 11 ∧ i < 40
  · rw [if_pos q, if_neg (by omega), if_pos q, h10.2, if_neg (by omega), u0]
  · rw [if_neg q, h10.2]
    by_cases q2 : (o0 + 1 ≤ j ∧ j ≤ o0 + 10) ∧ i < n
    · rw [if_pos q2, if_pos q2, u0]
    · rw [if_neg q2, if_neg q2, if_neg q, u0]
theorem c_holdTake (hn : rF u o1 1 = nI n) (h8 : n ≤ 64) (hd : o0 + 11 < o1 ∨ o1 + 11 < o0) : ∃ w, g_X2_takeFrom F o0 o1 u = some w ∧ w.2.2 = u.2.2 ∧ (∀ j i, w.2.1 j i = if j = o0 + 1 ∧ i < n then u.2.1 (o1 + 1) i else u.2.1 j i) ∧ (∀ k, k < 100 * o0 + 1 ∨ 100 * o0 + 4 < k → w.1 k = u.1 k) ∧ rF w o0 1 = rF u o1 1 ∧ rF w o0 2 = rF u o1 2 ∧ rF w o0 3 = rF u o1 3 ∧ rF w o0 4 = rF u o1 4 := by
  unfold g_X2_takeFrom
  rw [hn, lt1_i]
  have e0 : rF (sF u o0 1 (nI n)) o0 1 = nI n := sF_y
  obtain ⟨w1, a1, s1, h1⟩ := c_copyRow (F := F) (o0 := o1 + 1) (o1 := o0 + 1) (N := 64) (n := n) (u := sF u o0 1 (nI n)) h8 (by decide)
  rw [e0, a1, ob_i, lt1_i, lt1_i, lt1_i]
  have f1 : ∀ k, k ≠ 100 * o0 + 1 → w1.1 k = u.1 k := fun k hk => by rw [s1.1, sF_n hk]
  have e2 : rF w1 o1 2 = rF u o1 2 := f1 _ (by omega)
  have e3 : rF (sF w1 o0 2 (rF u o1 2)) o1 3 = rF u o1 3 := by
    show (sF w1 o0 2 _).1 (100 * o1 + 3) = _
    rw [sF_n (by omega)]
    exact f1 _ (by omega)
  rw [e2, e3]
  have e4 : rF (sF (sF w1 o0 2 (rF u o1 2)) o0 3 (rF u o1 3)) o1 4 = rF u o1 4 := by
    show (sF (sF w1 o0 2 _) o0 3 _).1 (100 * o1 + 4) = _
    rw [sF_n (by omega), sF_n (by omega)]
    exact f1 _ (by omega)
  rw [e4]
  refine ⟨_, rfl, s1.2, fun j i => h1 j i, fun k hk => ?_, ?_, ?_, ?_, sF_y⟩
  · rw [sF_n (by omega), sF_n (by omega), sF_n (by omega)]
    exact f1 k (by omega)
  · show (sF (sF (sF w1 o0 2 _) o0 3 _) o0 4 _).1 (100 * o0 + 1) = _
    rw [sF_n (by omega), sF_n (by omega), sF_n (by omega), s1.1]
    first | exact e0 | exact e0.trans hn.symm
  · show (sF (sF (sF w1 o0 2 _) o0 3 _) o0 4 _).1 (100 * o0 + 2) = _
    rw [sF_n (by omega), sF_n (by omega)]
    exact sF_y
  · show (sF (sF (sF w1 o0 2 _) o0 3 _) o0 4 _).1 (100 * o0 + 3) = _
    rw [sF_n (by omega)]
    exact sF_y
/-- how far the rows of a run are taken -/
def rowN (z L P C H T : Nat) : Nat := if z ≤ 5 then 64 else if z ≤ 11 then L else if z ≤ 22 then P else if z = 23 then 40 else if z ≤ 27 then C else if z ≤ 29 then H else T + 1
theorem c_take7 {L P C H T : Nat} {x : Int32} (hd : o0 + 33 < o1 ∨ o1 + 33 < o0) (hL : rF u (o1 + 6) 5 = nI L) (hL8 : L ≤ 800) (hP : rF u (o1 + 12) 11 = nI P) (hP8 : P ≤ 3800) (hC : rF u (o1 + 24) 3 = nI C) (hC8 : C ≤ 100) (hH : rF u (o1 + 28) 1 = nI H) (hH8 : H ≤ 64) (hT : rF u o1 9 = nI T) (hT8 : T ≤ 3000) (hF : 10000 < F) : ∃ w, g_X7_takeFrom F o0 o1 x u = some w ∧ w.2.2 = u.2.2 ∧ (∀ j, (j ≤ o0 ∨ o0 + 33 < j) → w.2.1 j = u.2.1 j) ∧ (∀ k, (k < 100 * o0 ∨ 100 * (o0 + 34) ≤ k) → w.1 k = u.1 k) ∧ (∀ z i, 2 ≤ z → z ≤ 33 → z ≠ 6 → z ≠ 12 → z ≠ 24 → z ≠ 28 → i < rowN z L P C H T → w.2.1 (o0 + z) i = u.2.1 (o1 + z) i) ∧ (rF w (o0 + 6) 5 = nI L ∧ rF w (o0 + 12) 11 = nI P ∧ rF w (o0 + 24) 3 = nI C ∧ rF w (o0 + 28) 1 = nI H ∧ rF w (o0 + 28) 2 = rF u (o1 + 28) 2 ∧ rF w (o0 + 28) 3 = rF u (o1 + 28) 3 ∧ rF w (o0 + 28) 4 = rF u (o1 + 28) 4) ∧ rF w o0 9 = nI T ∧ rF w o0 10 = rF u o1 10 ∧ rF w o0 12 = rF u o1 12 ∧ rF w o0 13 = rF u o1 13 ∧ rF w o0 14 = x := by
  unfold g_X7_takeFrom
  obtain ⟨w1, a1, s1, h1⟩ := c_takeFromP (F := F) (o := o0 + 1) (p := o1 + 1) (u := u) (by omega) (by omega)
  rw [a1, ob_i]
  have f1 : ∀ k, w1.1 k = u.1 k := fun k => by rw [s1.1]
  obtain ⟨w2, a2, s2, h2⟩ := c_logTake (F := F) (o0 := o0 + 6) (o1 := o1 + 6) (u := w1) (n := L) ((f1 _).trans hL) hL8 (by omega)
  rw [a2, ob_i]
  have f2 : ∀ k, k ≠ 100 * (o0 + 6) + 5 → w2.1 k = u.1 k := fun k hk => by rw [s2.1, sF_n hk, f1]
  obtain ⟨w3, a3, s3, h3⟩ := c_putsTake (F := F) (o0 := o0 + 12) (o1 := o1 + 12) (u := w2) (n := P) ((f2 _ (by omega)).trans hP) hP8 (by omega)
  rw [a3, ob_i]
  have f3 : ∀ k, k ≠ 100 * (o0 + 6) + 5 → k ≠ 100 * (o0 + 12) + 11 → w3.1 k = u.1 k := fun k k1 k2 => by rw [s3.1, sF_n k2, f2 k k1]
  obtain ⟨w4, a4, s4, h4⟩ := c_callsTake (F := F) (o0 := o0 + 24) (o1 := o1 + 24) (u := w3) (n := C) ((f3 _ (by omega) (by omega)).trans hC) hC8 (by omega)
  rw [a4, ob_i]
  have f4 : ∀ k, k ≠ 100 * (o0 + 6) + 5 → k ≠ 100 * (o0 + 12) + 11 → k ≠ 100 * (o0 + 24) + 3 → w4.1 k = u.1 k := fun k k1 k2 k3 => by rw [s4.1, sF_n k3, f3 k k1 k2]
  obtain ⟨w5, a5, s5, h5, f5, g1, g2, g3, g4⟩ := c_holdTake (F := F) (o0 := o0 + 28) (o1 := o1 + 28) (u := w4) (n := H) ((f4 _ (by omega) (by omega) (by omega)).trans hH) hH8 (by omega)
  rw [a5, ob_i, lt1_i]
  have f5' : ∀ k, k ≠ 100 * (o0 + 6) + 5 → k ≠ 100 * (o0 + 12) + 11 → k ≠ 100 * (o0 + 24) + 3 → (k < 100 * (o0 + 28) + 1 ∨ 100 * (o0 + 28) + 4 < k) → w5.1 k = u.1 k := fun k k1 k2 k3 k4 => (f5 k k4).trans (f4 k k1 k2 k3)
  have e9 : rF w5 o1 9 = nI T := (f5' _ (by omega) (by omega) (by omega) (by omega)).trans hT
  rw [e9]
  have e9' : rF (sF w5 o0 9 (nI T)) o0 9 = nI T := sF_y
  obtain ⟨w6, a6, s6, h6⟩ := c_copyRow (F := F) (o0 := o1 + 30) (o1 := o0 + 30) (N := 3001) (n := T + 1) (u := sF w5 o0 9 (nI T)) (by omega) (by decide)
  have e96 : rF w6 o0 9 = nI T := by
    unfold rF
    rw [s6.1]
    exact e9'
  rw [e9', nI_1, a6, ob_i, e96, nI_1]
  obtain ⟨w7, a7, s7, h7⟩ := c_copyRow (F := F) (o0 := o1 + 31) (o1 := o0 + 31) (N := 3001) (n := T + 1) (u := w6) (by omega) (by decide)
  have e97 : rF w7 o0 9 = nI T := by
    unfold rF
    rw [s7.1]
    exact e96
  rw [a7, ob_i, e97, nI_1]
  obtain ⟨w8, a8, s8, h8⟩ := c_copyRow (F := F) (o0 := o1 + 32) (o1 := o0 + 32) (N := 3001) (n := T + 1) (u := w7) (by omega) (by decide)
  have e98 : rF w8 o0 9 = nI T := by
    unfold rF
    rw [s8.1]
    exact e97
  rw [a8, ob_i, e98, nI_1]
  obtain ⟨w9, a9, s9, h9⟩ := c_copyRow (F := F) (o0 := o1 + 33) (o1 := o0 + 33) (N := 3001) (n := T + 1) (u := w8) (by omega) (by decide)
  rw [a9, ob_i, lt1_i, lt1_i, lt1_i, lt1_i]
  have f9 : ∀ k, w9.1 k = (sF w5 o0 9 (nI T)).1 k := fun k => by rw [s9.1, s8.1, s7.1, s6.1]
  have F9 : ∀ k, k ≠ 100 * o0 + 9 → k ≠ 100 * (o0 + 6) + 5 → k ≠ 100 * (o0 + 12) + 11 → k ≠ 100 * (o0 + 24) + 3 → (k < 100 * (o0 + 28) + 1 ∨ 100 * (o0 + 28) + 4 < k) → w9.1 k = u.1 k := fun k k0 k1 k2 k3 k4 => by rw [f9, sF_n k0, f5' k k1 k2 k3 k4]
  have x10 : rF w9 o1 10 = rF u o1 10 := F9 _ (by omega) (by omega) (by omega) (by omega) (by omega)
  have x12 : rF (sF w9 o0 10 (rF u o1 10)) o1 12 = rF u o1 12 := by
    show (sF w9 o0 10 _).1 (100 * o1 + 12) = _
    rw [sF_n (by omega)]
    exact F9 _ (by omega) (by omega) (by omega) (by omega) (by omega)
  rw [x10, x12]
  have x13 : rF (sF (sF w9 o0 10 (rF u o1 10)) o0 12 (rF u o1 12)) o1 13 = rF u o1 13 := by
    show (sF (sF w9 o0 10 _) o0 12 _).1 (100 * o1 + 13) = _
    rw [sF_n (by omega), sF_n (by omega)]
    exact F9 _ (by omega) (by omega) (by omega) (by omega) (by omega)
  rw [x13]
  -- the arrays
  have A9 : ∀ j i, w9.2.1 j i = if (o0 + 30 ≤ j ∧ j ≤ o0 + 33) ∧ i < T + 1 then w5.2.1 (j - o0 + o1) i else w5.2.1 j i := fun j i => by
    have u0 : ∀ j i, (sF w5 o0 9 (nI T)).2.1 j i = w5.2.1 j i := fun _ _ => rfl
    rw [h9]
    by_cases z : i < T + 1
    · by_cases j33 : j = o0 + 33
      · subst j33
        rw [if_pos ⟨rfl, z⟩, h8, if_neg (by omega), h7, if_neg (by omega), h6, if_neg (by omega), u0, if_pos (by omega), show o0 + 33 - o0 + o1 = o1 + 33 by omega]
      rw [if_neg (fun y => j33 y.1), h8]
      by_cases j32 : j = o0 + 32
      · subst j32
        rw [if_pos ⟨rfl, z⟩, h7, if_neg (by omega), h6, if_neg (by omega), u0, if_pos (by omega), show o0 + 32 - o0 + o1 = o1 + 32 by omega]
      rw [if_neg (fun y => j32 y.1), h7]
      by_cases j31 : j = o0 + 31
      · subst j31
        rw [if_pos ⟨rfl, z⟩, h6, if_neg (by omega), u0, if_pos (by omega), show o0 + 31 - o0 + o1 = o1 + 31 by omega]
      rw [if_neg (fun y => j31 y.1), h6]
      by_cases j30 : j = o0 + 30
      · subst j30
        rw [if_pos ⟨rfl, z⟩, u0, if_pos (by omega), show o0 + 30 - o0 + o1 = o1 + 30 by omega]
      rw [if_neg (fun y => j30 y.1), u0, if_neg (by omega)]
    · rw [if_neg (fun y => z y.2), h8, if_neg (fun y => z y.2), h7, if_neg (fun y => z y.2), h6, if_neg (fun y => z y.2), u0, if_neg (fun y => z y.2)]
  have A5 : ∀ j i, (j ≤ o0 + 28 ∨ o0 + 30 ≤ j) → w5.2.1 j i = w4.2.1 j i := fun j i hj => by rw [h5, if_neg (by omega)]
  have A4 : ∀ j i, (j ≤ o0 + 24 ∨ o0 + 28 ≤ j) → w4.2.1 j i = w3.2.1 j i := fun j i hj => by rw [h4, if_neg (by omega)]
  have A3 : ∀ j i, (j ≤ o0 + 12 ∨ o0 + 24 ≤ j) → w3.2.1 j i = w2.2.1 j i := fun j i hj => by rw [h3, if_neg (by omega), if_neg (by omega)]
  have A2 : ∀ j i, (j ≤ o0 + 6 ∨ o0 + 12 ≤ j) → w2.2.1 j i = w1.2.1 j i := fun j i hj => by rw [h2, if_neg (by omega)]; rfl
  have A1 : ∀ j i, (j ≤ o0 + 1 ∨ o0 + 6 ≤ j) → w1.2.1 j i = u.2.1 j i := fun j i hj => by rw [h1, if_neg (by omega)]
  have out : ∀ j i, (j ≤ o0 ∨ o0 + 33 < j) → w5.2.1 j i = u.2.1 j i := fun j i hj => by rw [A5 j i (by omega), A4 j i (by omega), A3 j i (by omega), A2 j i (by omega), A1 j i (by omega)]
  refine ⟨_, rfl, ?_, fun j hj => ?_, fun k hk => ?_, fun z i z1 z2 z3 z4 z5 z6 hi => ?_, ⟨?_, ?_, ?_, ?_, ?_, ?_, ?_⟩, ?_, ?_, ?_, ?_, sF_y⟩
  · show w9.2.2 = _
    rw [s9.2, s8.2, s7.2, s6.2]
    show w5.2.2 = _
    rw [s5, s4.2]
    show w3.2.2 = _
    rw [s3.2]
    show w2.2.2 = _
    rw [s2.2]
    show w1.2.2 = _
    exact s1.2
  · funext i
    show w9.2.1 j i = _
    rw [A9, if_neg (by omega), out j i hj]
  · rw [sF_n (by omega), sF_n (by omega), sF_n (by omega), sF_n (by omega)]
    exact F9 k (by omega) (by omega) (by omega) (by omega) (by omega)
  · show w9.2.1 (o0 + z) i = _
    unfold rowN at hi
    by_cases y5 : z ≤ 5
    · rw [if_pos y5] at hi
      rw [A9, if_neg (by omega), A5 _ _ (by omega), A4 _ _ (by omega), A3 _ _ (by omega), A2 _ _ (by omega), h1, if_pos (by omega), show o0 + z - (o0 + 1) + (o1 + 1) = o1 + z by omega]
    rw [if_neg y5] at hi
    by_cases y11 : z ≤ 11
    · rw [if_pos y11] at hi
      rw [A9, if_neg (by omega), A5 _ _ (by omega), A4 _ _ (by omega), A3 _ _ (by omega), h2, if_pos (by omega), show o0 + z - (o0 + 6) + (o1 + 6) = o1 + z by omega]
      show w1.2.1 (o1 + z) i = _
      rw [A1 _ _ (by omega)]
    rw [if_neg y11] at hi
    by_cases y22 : z ≤ 22
    · rw [if_pos y22] at hi
      rw [A9, if_neg (by omega), A5 _ _ (by omega), A4 _ _ (by omega), h3, if_pos (by omega), show o0 + z - (o0 + 12) + (o1 + 12) = o1 + z by omega, A2 _ _ (by omega), A1 _ _ (by omega)]
    rw [if_neg y22] at hi
    by_cases y23 : z = 23
    · rw [if_pos y23] at hi
      subst y23
      rw [A9, if_neg (by omega), A5 _ _ (by omega), A4 _ _ (by omega), h3, if_neg (by omega), if_pos (by omega), show o1 + 12 + 11 = o1 + 23 from rfl, A2 _ _ (by omega), A1 _ _ (by omega)]
    rw [if_neg y23] at hi
    by_cases y27 : z ≤ 27
    · rw [if_pos y27] at hi
      rw [A9, if_neg (by omega), A5 _ _ (by omega), h4, if_pos (by omega), show o0 + z - (o0 + 24) + (o1 + 24) = o1 + z by omega, A3 _ _ (by omega), A2 _ _ (by omega), A1 _ _ (by omega)]
    rw [if_neg y27] at hi
    by_cases y29 : z ≤ 29
    · rw [if_pos y29] at hi
      have e29 : z = 29 := by omega
      subst e29
      rw [A9, if_neg (by omega), h5, if_pos (by omega), show o1 + 28 + 1 = o1 + 29 from rfl, A4 _ _ (by omega), A3 _ _ (by omega), A2 _ _ (by omega), A1 _ _ (by omega)]
    rw [if_neg y29] at hi
    rw [A9, if_pos (by omega), show o0 + z - o0 + o1 = o1 + z by omega, out _ _ (by omega)]
  · show (sF (sF (sF (sF w9 o0 10 _) o0 12 _) o0 13 _) o0 14 _).1 (100 * (o0 + 6) + 5) = _
    rw [sF_n (by omega), sF_n (by omega), sF_n (by omega), sF_n (by omega), f9, sF_n (by omega), f5 _ (by omega), s4.1, sF_n (by omega), s3.1, sF_n (by omega), s2.1]
    exact sF_y
  · show (sF (sF (sF (sF w9 o0 10 _) o0 12 _) o0 13 _) o0 14 _).1 (100 * (o0 + 12) + 11) = _
    rw [sF_n (by omega), sF_n (by omega), sF_n (by omega), sF_n (by omega), f9, sF_n (by omega), f5 _ (by omega), s4.1, sF_n (by omega), s3.1]
    exact sF_y
  · show (sF (sF (sF (sF w9 o0 10 _) o0 12 _) o0 13 _) o0 14 _).1 (100 * (o0 + 24) + 3) = _
    rw [sF_n (by omega), sF_n (by omega), sF_n (by omega), sF_n (by omega), f9, sF_n (by omega), f5 _ (by omega), s4.1]
    exact sF_y
  · show (sF (sF (sF (sF w9 o0 10 _) o0 12 _) o0 13 _) o0 14 _).1 (100 * (o0 + 28) + 1) = _
    rw [sF_n (by omega), sF_n (by omega), sF_n (by omega), sF_n (by omega), f9, sF_n (by omega)]
    exact g1.trans ((f4 _ (by omega) (by omega) (by omega)).trans hH)
  · show (sF (sF (sF (sF w9 o0 10 _) o0 12 _) o0 13 _) o0 14 _).1 (100 * (o0 + 28) + 2) = _
    rw [sF_n (by omega), sF_n (by omega), sF_n (by omega), sF_n (by omega), f9, sF_n (by omega)]
    exact g2.trans (f4 _ (by omega) (by omega) (by omega))
  · show (sF (sF (sF (sF w9 o0 10 _) o0 12 _) o0 13 _) o0 14 _).1 (100 * (o0 + 28) + 3) = _
    rw [sF_n (by omega), sF_n (by omega), sF_n (by omega), sF_n (by omega), f9, sF_n (by omega)]
    exact g3.trans (f4 _ (by omega) (by omega) (by omega))
  · show (sF (sF (sF (sF w9 o0 10 _) o0 12 _) o0 13 _) o0 14 _).1 (100 * (o0 + 28) + 4) = _
    rw [sF_n (by omega), sF_n (by omega), sF_n (by omega), sF_n (by omega), f9, sF_n (by omega)]
    exact g4.trans (f4 _ (by omega) (by omega) (by omega))
  · show (sF (sF (sF (sF w9 o0 10 _) o0 12 _) o0 13 _) o0 14 _).1 (100 * o0 + 9) = _
    rw [sF_n (by omega), sF_n (by omega), sF_n (by omega), sF_n (by omega), f9]
    exact sF_y
  · show (sF (sF (sF (sF w9 o0 10 _) o0 12 _) o0 13 _) o0 14 _).1 (100 * o0 + 10) = _
    rw [sF_n (by omega), sF_n (by omega), sF_n (by omega)]
    exact sF_y
  · show (sF (sF (sF (sF w9 o0 10 _) o0 12 _) o0 13 _) o0 14 _).1 (100 * o0 + 12) = _
    rw [sF_n (by omega), sF_n (by omega)]
    exact sF_y
  · show (sF (sF (sF (sF w9 o0 10 _) o0 12 _) o0 13 _) o0 14 _).1 (100 * o0 + 13) = _
    rw [sF_n (by omega)]
    exact sF_y
end XZ
end W_75
section W_76
-- 97zzi.keep
/-! the class and the reference: keep and begin on both sides -/
section YA
variable {pB : Prop} {F q q' T N k o0 o1 K t : Nat} {d x : Int32} {u w uc um um' : rg_U} {m : Row} {R : Nat → Row} {l : Nat → Nat}
theorem vS_cN {f g : Nat → Int32} (h : ∀ n, n < N → f n = g n) (hx : isPt N x) (hN : N < 2 ^ 31) : vS f d x = vS g d x := by
  rcases hx with rfl | ⟨n, hn, rfl⟩
  · rw [vS_0, vS_0]
  · rw [vS_n (by omega), vS_n (by omega), h n hn]
theorem PI_mv (h : PI u q T N) (hf : rF w q' 11 = nI N) (ha : ∀ z, 1 ≤ z → z ≤ 6 → ∀ n, n < N → w.2.1 (q' + z) n = u.2.1 (q + z) n) (hb : ∀ p, p < 40 → w.2.1 (q' + 11) p = u.2.1 (q + 11) p) : PI w q' T N := by
  obtain ⟨h1, h2, h3, h4, h5, h6⟩ := h
  have hl : ∀ p n, n ≤ N → lat (w.2.1 (q' + 2)) p n = lat (u.2.1 (q + 2)) p n := fun p n hn => lat_c n (fun i hi => ha 2 (by omega) (by omega) i (by omega))
  refine ⟨hf, h2, h3, fun i j hij hj => ?_, fun p hp => ?_, fun n hn => ?_⟩
  · rw [ha 1 (by omega) (by omega) i (by omega), ha 1 (by omega) (by omega) j hj]
    exact h4 i j hij hj
  · rw [hb p hp, hl p N (Nat.le_refl _)]
    exact h5 p hp
  · obtain ⟨s, p, b1, b2, b3, b4, b5, b6⟩ := h6 n hn
    have hpt : isPt N (u.2.1 (q + 6) n) := by rw [b5]; exact lat_ok (by omega)
    refine ⟨s, p, b1, b2, by rw [ha 1 (by omega) (by omega) n hn]; exact b3, by rw [ha 2 (by omega) (by omega) n hn]; exact b4, by rw [ha 6 (by omega) (by omega) n hn, hl p n (by omega)]; exact b5, ?_⟩
    rw [ha 5 (by omega) (by omega) n hn, ha 6 (by omega) (by omega) n hn, ha 3 (by omega) (by omega) n hn, ha 4 (by omega) (by omega) n hn, vS_cN (fun i hi => ha 5 (by omega) (by omega) i hi) hpt (by omega), vS_cN (fun i hi => ha 3 (by omega) (by omega) i hi) hpt (by omega), vS_cN (fun i hi => ha 4 (by omega) (by omega) i hi) hpt (by omega)]
    exact b6
theorem PRow_mv (h : PRow u q k m) (hk : k ≤ N) (hN : N < 2 ^ 31) (ha : ∀ z, 1 ≤ z → z ≤ 6 → ∀ n, n < N → w.2.1 (q' + z) n = u.2.1 (q + z) n) : PRow w q' k m := by
  intro p hp
  have hl : lat (w.2.1 (q' + 2)) p k = lat (u.2.1 (q + 2)) p k := lat_c k (fun i hi => ha 2 (by omega) (by omega) i (by omega))
  have hpt : isPt N (lat (u.2.1 (q + 2)) p k) := lat_ok hk
  rw [hl, vS_cN (fun i hi => ha 3 (by omega) (by omega) i hi) hpt hN, vS_cN (fun i hi => ha 4 (by omega) (by omega) i hi) hpt hN, vS_cN (fun i hi => ha 5 (by omega) (by omega) i hi) hpt hN]
  exact h p hp
theorem SI_mv (h : SI u o1 R t) (ha : ∀ z, 30 ≤ z → z ≤ 33 → ∀ s, s ≤ t → w.2.1 (o0 + z) s = u.2.1 (o1 + z) s) : SI w o0 R t := by
  obtain ⟨h1, h2, h3, h4⟩ := h
  refine ⟨by rw [ha 30 (by omega) (by omega) t (Nat.le_refl _)]; exact h1, by rw [ha 31 (by omega) (by omega) t (Nat.le_refl _)]; exact h2, by rw [ha 32 (by omega) (by omega) t (Nat.le_refl _)]; exact h3, KI_c h4 (fun s hs => ha 30 (by omega) (by omega) s (by omega)) (ha 33 (by omega) (by omega) t (Nat.le_refl _)) (fun _ _ => rfl)⟩
/-- a run is kept -/
theorem RR_mv {L P C H : Nat} (hR : RR pB uc um o1 4) (hro : runOK um 4) (hmv : mvR um um' 4 K) (hL : L = nr um 4) (hC : C = Cr um 4) (hP : rF uc (o1 + 12) 11 = nI P) (hP8 : P ≤ 3800) (hH : rF uc (o1 + 28) 1 = nI H) (hH8 : H ≤ 64) (hT : T = Tr um 4) (ha : ∀ z i, 2 ≤ z → z ≤ 33 → z ≠ 6 → z ≠ 12 → z ≠ 24 → z ≠ 28 → i < rowN z L P C H T → w.2.1 (o0 + z) i = uc.2.1 (o1 + z) i) (hf : rF w (o0 + 6) 5 = nI L ∧ rF w (o0 + 12) 11 = nI P ∧ rF w (o0 + 24) 3 = nI C ∧ rF w (o0 + 28) 1 = nI H ∧ rF w (o0 + 28) 2 = rF uc (o1 + 28) 2 ∧ rF w (o0 + 28) 3 = rF uc (o1 + 28) 3 ∧ rF w (o0 + 28) 4 = rF uc (o1 + 28) 4) (hg : rF w o0 9 = nI T ∧ rF w o0 10 = rF uc o1 10 ∧ rF w o0 12 = rF uc o1 12 ∧ rF w o0 13 = rF uc o1 13) : RR pB w um' o0 K := by
  subst hL hC hT
  have hCk := hro.2.2.2.2.2.2.2.2
  obtain ⟨r1, r2, r3, r4, r5, ⟨r6, r7, r8, r9⟩, N, hS⟩ := hR
  obtain ⟨e1, e2, e3, e4, e5, e6, e7, e8⟩ := mv_e hmv
  have eR : ∀ t, rpm um' K t = rpm um 4 t := fun t => by
    unfold rpm
    rw [e1, e2, e4]
  have eN : N = P := nI_inj (by have := hS.2.2.2.1.2.1; omega) (by omega) (hS.2.2.2.1.1.symm.trans hP)
  subst eN
  have hs := hmv.2.2.1
  have hX : RX w um' o0 K := RX_mv (N := N) r5.2 hP hP8 hf.2.1 (fun z n z1 z2 hn => ha z n (by omega) (by omega) (by omega) (by omega) (by omega) (by omega) (by unfold rowN; rw [if_neg (by omega), if_neg (by omega), if_pos (by omega)]; exact hn)) e1 e2 eR e5
  unfold RR CG HB
  rw [e1, e2, e3, e4, e5, e6, e7, e8, eR, hs 25 (Or.inr (Or.inr (by decide))) (by decide), hs 26 (Or.inr (Or.inr (by decide))) (by decide), hs 27 (Or.inr (Or.inr (by decide))) (by decide)]
  have hp : ∀ z, 1 ≤ z → z ≤ 6 → ∀ n, n < N → w.2.1 (o0 + 12 + z) n = uc.2.1 (o1 + 12 + z) n := fun z z1 z2 n hn => by
    rw [Nat.add_assoc, Nat.add_assoc]
    exact ha (12 + z) n (by omega) (by omega) (by omega) (by omega) (by omega) (by omega) (by unfold rowN; rw [if_neg (by omega), if_neg (by omega), if_pos (by omega)]; exact hn)
  refine ⟨fun k hk => ?_, ⟨hf.1, fun k hk => ?_⟩, ⟨hf.2.2.1, fun i hi => ?_⟩, ?_, ⟨r5.1, hX⟩, ⟨hf.2.2.2.2.1.trans r6, hg.2.1.trans r7, fun hb => hg.2.2.1.trans (r8 hb), hg.2.2.2.trans r9⟩, N, ?_⟩
  · rw [ha 2 k (by omega) (by omega) (by omega) (by omega) (by omega) (by omega) hk, ha 3 k (by omega) (by omega) (by omega) (by omega) (by omega) (by omega) hk, ha 4 k (by omega) (by omega) (by omega) (by omega) (by omega) (by omega) hk, ha 5 k (by omega) (by omega) (by omega) (by omega) (by omega) (by omega) hk]
    exact r1 k hk
  · rw [ha 7 k (by omega) (by omega) (by omega) (by omega) (by omega) (by omega) hk, ha 8 k (by omega) (by omega) (by omega) (by omega) (by omega) (by omega) hk, ha 9 k (by omega) (by omega) (by omega) (by omega) (by omega) (by omega) hk, ha 10 k (by omega) (by omega) (by omega) (by omega) (by omega) (by omega) hk, ha 11 k (by omega) (by omega) (by omega) (by omega) (by omega) (by omega) hk]
    exact r2.2 k hk
  · have hC1 := hCk.1
    rw [ha 25 i (by omega) (by omega) (by omega) (by omega) (by omega) (by omega) hi, ha 26 i (by omega) (by omega) (by omega) (by omega) (by omega) (by omega) hi, ha 27 i (by omega) (by omega) (by omega) (by omega) (by omega) (by omega) hi, hmv.2.2.2.1 16 (by decide) (by decide) i (by omega), hmv.2.2.2.1 17 (by decide) (by decide) i (by omega), hmv.2.2.2.1 18 (by decide) (by decide) i (by omega)]
    exact r3.2 i hi
  · obtain ⟨h3, h4, n, f, h1, h64, hA, hl⟩ := r4
    have en : n = H := nI_inj (by omega) (by omega) (h1.symm.trans hH)
    subst en
    refine ⟨hf.2.2.2.2.2.1.trans h3, hf.2.2.2.2.2.2.trans h4, n, f, hf.2.2.2.1, h64, fun i hi => ?_, hl⟩
    rw [show o0 + 28 + 1 = o0 + 29 from rfl, ha 29 i (by omega) (by omega) (by omega) (by omega) (by omega) (by omega) hi]
    exact hA i hi
  · have h11 : ∀ p, p < 40 → w.2.1 (o0 + 12 + 11) p = uc.2.1 (o1 + 12 + 11) p := fun p hp' => ha 23 p (by omega) (by omega) (by omega) (by omega) (by omega) (by omega) hp'
    have hrun : RunS w o0 (Tr um 4) N (fun t => (rpm um 4 t).1) (fun t => (rpm um 4 t).2) := by
      obtain ⟨a1, a2, a3, a4, a5⟩ := hS
      refine ⟨hg.1, a2, fun t ht => SI_mv (a3 t ht) (fun z z1 z2 s hs' => ha z s (by omega) (by omega) (by omega) (by omega) (by omega) (by omega) (by unfold rowN; rw [if_neg (by omega), if_neg (by omega), if_neg (by omega), if_neg (by omega), if_neg (by omega), if_neg (by omega)]; omega)), PI_mv a4 hf.2.1 hp h11, fun t ht => ?_⟩
      have ec : cP (w.2.1 (o0 + 13)) t N = cP (uc.2.1 (o1 + 13)) t N := cP_c N (fun i hi => hp 1 (by omega) (by omega) i hi)
      rw [ec]
      exact ⟨PRow_mv (a5 t ht).1 (cP_le N) (by omega) hp, (a5 t ht).2⟩
    exact RunS_c hrun (fun t _ => by rw [eR]) (fun t _ => by rw [eR])
/-- a run begins -/
theorem RR_new {v : rg_U} {U D : Nat} (hv : ∀ z k, z < 4 → k < 64 → v.2.1 (118 + z) k = um.2.1 (1 + z) k) (h9 : rF v 0 9 = um.1 4) (h10 : rF v 0 10 = um.1 5) (hU : um.1 4 = nI U) (hD : um.1 5 = nI D) (hok : okP (Pm um' 4)) (hU2 : U ≤ 64) (hD2 : D ≤ 8) (hA : ∀ j i, um'.2.1 j i = m_begunA um j i) : RR pB (sF (sF (c_begun v) 6 1 0) 6 2 0) um' 116 4 := by
  have e4 : ∀ j, (15 ≤ j ∧ j ≤ 27 ∧ j ≠ 16 ∧ j ≠ 17 ∧ j ≠ 18 ∧ j ≠ 20 ∧ j ≠ 22) → um'.2.1 j 4 = if j = 26 then 1 else if j = 24 then um.1 5 else if j = 23 then um.1 4 else 0 := fun j hj => by
    rw [hA]
    unfold m_begunA
    rw [if_neg (by omega)]
    rcases (show j = 15 ∨ j = 19 ∨ j = 21 ∨ j = 23 ∨ j = 24 ∨ j = 25 ∨ j = 26 ∨ j = 27 by omega) with rfl | rfl | rfl | rfl | rfl | rfl | rfl | rfl <;> simp
  have en : nr um' 4 = 0 := by
    unfold nr
    rw [e4 15 (by omega)]
    rfl
  have eT : Tr um' 4 = 0 := by
    unfold Tr
    rw [e4 21 (by omega)]
    rfl
  have eC : Cr um' 4 = 0 := by
    unfold Cr
    rw [e4 19 (by omega)]
    rfl
  have eU : Ur um' 4 = U := by
    unfold Ur
    rw [e4 23 (by omega)]
    show tn (um.1 4) = U
    rw [hU, tnn (by omega)]
  have eD : Dr um' 4 = D := by
    unfold Dr
    rw [e4 24 (by omega)]
    show tn (um.1 5) = D
    rw [hD, tnn (by omega)]
  have eH : ∀ k, k ≤ 3000 → Hm um' 4 k = if k = 0 then 1 else 0 := fun k hk => by
    rw [Hm_k (by omega), hA]
    unfold m_begunA
    rw [if_neg (by omega), if_neg (by omega), if_neg (by omega), if_neg (by omega), if_neg (by omega), if_neg (by omega), if_neg (by omega), if_pos (by omega)]
    by_cases q : k = 0
    · rw [if_pos (by omega), if_pos q]
    · rw [if_neg (by omega), if_neg q]
  have eP : ∀ z k, z < 4 → k < 64 → um'.2.1 (6 + z) (64 * 4 + k) = um.2.1 (1 + z) k := fun z k hz hk => by
    rw [hA]
    unfold m_begunA
    rw [if_neg (by omega), if_neg (by omega), if_neg (by omega), if_neg (by omega), if_neg (by omega), if_neg (by omega), if_neg (by omega), if_neg (by omega), if_neg (by omega), if_neg (by omega), if_neg (by omega), if_pos (by omega), show 6 + z - 5 = 1 + z by omega, show 64 * 4 + k - 256 = k by omega]
  have eR : rpm um' 4 0 = (zrow, 0) := by
    unfold rpm
    rw [en]
    exact (okW_new hok).2
  have hX : RX (sF (sF (c_begun v) 6 1 0) 6 2 0) um' 116 4 := by
    unfold RX
    rw [show rF (sF (sF (c_begun v) 6 1 0) 6 2 0) (116 + 12) 11 = nI 0 from rfl, eT, tnn (by omega)]
    refine RXC_0 (fun p k => ?_)
    show ¬ pkS (Lm um' 4) 0 (rpm um' 4 0).2 (fun _ _ => False) p k
    rw [eR]
    exact fun w => w
  refine ⟨fun k hk => ?_, ⟨?_, fun k hk => ?_⟩, ⟨?_, fun i hi => ?_⟩, ⟨?_, ?_, 1, fun _ => 0, ?_, by omega, fun i hi => ?_, fun i j hij hj => by omega, fun k => ?_⟩, ⟨fun k hk hz => ?_, hX⟩, ⟨?_, ?_, ?_, ?_⟩, 0, ?_, by rw [eT]; omega, fun t ht => ?_, ⟨?_, by omega, by rw [eT]; omega, fun i j _ hj => by omega, fun p hp => ?_, fun n hn => by omega⟩, fun t ht => ?_⟩
  · rw [Pm_0 hk, Pm_1 hk, Pm_2 hk, Pm_3 hk, eP 0 k (by omega) hk, eP 1 k (by omega) hk, eP 2 k (by omega) hk, eP 3 k (by omega) hk]
    exact ⟨hv 0 k (by omega) hk, hv 1 k (by omega) hk, hv 2 k (by omega) hk, hv 3 k (by omega) hk⟩
  · rw [en]; rfl
  · rw [en] at hk; omega
  · rw [eC]; rfl
  · rw [eC] at hi; omega
  · rw [eU, ← hU, ← h9]; rfl
  · rw [eD, ← hD, ← h10]; rfl
  · rfl
  · rw [show i = 0 by omega, Nat.zero_mul]; rfl
  · constructor
    · rintro ⟨a, b⟩
      rw [eH k a] at b
      by_cases y : k = 0
      · exact ⟨0, by omega, y.symm⟩
      · rw [if_neg y] at b; exact absurd rfl b
    · rintro ⟨i, hi, e⟩
      have e : 0 = k := e
      subst e
      rw [eH 0 (by omega), if_pos rfl]
      exact ⟨by omega, by decide⟩
  · rw [eH k hk] at hz
    by_cases y : k = 0
    · exact Or.inl y
    · rw [if_neg y] at hz; exact absurd rfl hz
  · rw [e4 26 (by omega)]; rfl
  · rw [eT, eR]; rfl
  · intro _
    rw [e4 25 (by omega)]; rfl
  · rw [e4 27 (by omega)]; rfl
  · rw [eT]; rfl
  · have t0 : t = 0 := by rw [eT] at ht; omega
    subst t0
    unfold SI KI
    dsimp only
    rw [eR]
    refine ⟨?_, ?_, ?_, 0, by omega, rfl, fun _ => ?_, fun e he => by omega⟩
    · rfl
    · rfl
    · rfl
    · rfl
  · rfl
  · show (if p < 40 then (-1 : Int32) else _) = _
    rw [if_pos hp]
    rfl
  · have t0 : t = 0 := by rw [eT] at ht; omega
    subst t0
    dsimp only
    rw [eR]
    exact ⟨fun p hp => ⟨rfl, rfl, rfl⟩, Nat.zero_le _⟩
end YA
end W_76
section W_77
-- 97zzj.watch
/-! what is watched (the first rows: from the kit's laws, BITS.to-paste) -/
def bt (x : Int32) (i : Nat) : Bool := x.toBitVec.getLsbD i
theorem b_ext {x y : Int32} (h : ∀ i, i < 32 → bt x i = bt y i) : x = y := Int32.toBitVec_inj.mp (BitVec.eq_of_getLsbD_eq (fun i hi => h i hi))
theorem b_or (x y : Int32) (i : Nat) : bt (x ||| y) i = (bt x i || bt y i) := by unfold bt; rw [Int32.toBitVec_or, BitVec.getLsbD_or]
theorem b_and (x y : Int32) (i : Nat) : bt (x &&& y) i = (bt x i && bt y i) := by unfold bt; rw [Int32.toBitVec_and, BitVec.getLsbD_and]
theorem b_xor (x y : Int32) (i : Nat) : bt (x ^^^ y) i = (bt x i ^^ bt y i) := by unfold bt; rw [Int32.toBitVec_xor, BitVec.getLsbD_xor]
theorem b_0 (i : Nat) : bt 0 i = false := BitVec.getLsbD_zero
theorem s_l : ∀ n, n < 32 → ((nI n &&& 31).toBitVec.smod 32).toNat = n := by decide +kernel
theorem b_shl (n : Nat) (hn : n < 32) (x : Int32) {i : Nat} (hi : i < 32) : bt (x <<< (nI n &&& 31)) i = (decide (n ≤ i) && bt x (i - n)) := by
  unfold bt
  rw [Int32.toBitVec_shiftLeft]
  show (x.toBitVec <<< ((nI n &&& 31).toBitVec.smod 32).toNat).getLsbD i = _
  rw [s_l n hn, BitVec.getLsbD_shiftLeft]
  rcases Nat.lt_or_ge i n with h | h
  · simp [h, Nat.not_le.mpr h]
  · simp [hi, h, Nat.not_lt.mpr h]
theorem b_sshr (n : Nat) (hn : n < 32) (x : Int32) {i : Nat} (hi : i < 32) : bt (x >>> (nI n &&& 31)) i = if n + i < 32 then bt x (n + i) else bt x 31 := by
  unfold bt
  rw [Int32.toBitVec_shiftRight]
  show (x.toBitVec.sshiftRight ((nI n &&& 31).toBitVec.smod 32).toNat).getLsbD i = _
  rw [s_l n hn, BitVec.getLsbD_sshiftRight, BitVec.msb_eq_getLsbD_last]
  simp [hi]
theorem b_1 : ∀ i, i < 32 → bt 1 i = decide (i = 0) := by decide +kernel
theorem bt_and1 {x : Int32} : (x &&& 1) = if bt x 0 = true then 1 else 0 := by
  refine b_ext fun i hi => ?_
  rw [b_and, b_1 i hi]
  by_cases q : bt x 0 = true
  · rw [if_pos q, b_1 i hi]
    by_cases z : i = 0
    · rw [z, q]; rfl
    · rw [show decide (i = 0) = false from decide_eq_false z, Bool.and_false]
  · rw [if_neg q, b_0]
    by_cases z : i = 0
    · rw [z, (Bool.not_eq_true _).mp q, Bool.false_and]
    · rw [show decide (i = 0) = false from decide_eq_false z, Bool.and_false]
theorem bt_shr {x : Int32} {k : Nat} (hk : k < 32) : (dx_shr x (nI k) &&& 1) = 1 ↔ bt x k = true := by
  show ((x >>> (nI k &&& 31)) &&& 1) = 1 ↔ _
  rw [bt_and1, b_sshr k hk x (by omega), if_pos (c := k + 0 < 32) (by omega), Nat.add_zero]
  by_cases q : bt x k = true
  · rw [if_pos q]; exact ⟨fun _ => q, fun _ => rfl⟩
  · rw [if_neg q]; exact ⟨fun z => absurd z (by decide), fun z => absurd z q⟩
theorem bt_shl {k i : Nat} (hk : k < 32) (hi : i < 32) : bt (dx_shl 1 (nI k)) i = decide (i = k) := by
  show bt ((1 : Int32) <<< (nI k &&& 31)) i = _
  rw [b_shl k hk 1 hi, b_1 (i - k) (by omega)]
  by_cases q : i = k
  · rw [q, Nat.sub_self]; simp
  · rw [show decide (i = k) = false from decide_eq_false q]
    by_cases z : k ≤ i
    · rw [show decide (i - k = 0) = false from decide_eq_false (by omega), Bool.and_false]
    · rw [show decide (k ≤ i) = false from decide_eq_false z, Bool.false_and]
theorem wtB_bit {u : rg_U} {a i : Nat} (hi : i < 32) : ∀ n, n ≤ 32 → bt (wtB u a n) i = decide (i < n ∧ ¬ u.2.1 30 (a + i) = 0)
  | 0, _ => by
    show bt 0 i = _
    rw [b_0]
    exact (decide_eq_false (by omega)).symm
  | n + 1, hn => by
    show bt (wtB u a n ||| (if u.2.1 30 (a + n) = 0 then 0 else dx_shl 1 (nI n))) i = _
    rw [b_or, wtB_bit hi n (by omega)]
    by_cases q : i = n
    · subst q
      rw [show decide (i < i ∧ ¬ u.2.1 30 (a + i) = 0) = false from decide_eq_false (by omega), Bool.false_or]
      by_cases z : u.2.1 30 (a + i) = 0
      · rw [if_pos z, b_0]
        exact (decide_eq_false (fun y => y.2 z)).symm
      · rw [if_neg z, bt_shl (by omega) hi]
        rw [show decide (i = i) = true from decide_eq_true rfl]
        exact (decide_eq_true ⟨Nat.lt_succ_self i, z⟩).symm
    · have e : bt (if u.2.1 30 (a + n) = 0 then 0 else dx_shl 1 (nI n)) i = false := by
        by_cases z : u.2.1 30 (a + n) = 0
        · rw [if_pos z, b_0]
        · rw [if_neg z, bt_shl (by omega) hi]
          exact decide_eq_false q
      rw [e, Bool.or_false]
      by_cases z : i < n ∧ ¬ u.2.1 30 (a + i) = 0
      · rw [decide_eq_true z, decide_eq_true (show i < n + 1 ∧ ¬ u.2.1 30 (a + i) = 0 from ⟨by omega, z.2⟩)]
      · rw [decide_eq_false z, decide_eq_false (fun y => z ⟨by omega, y.2⟩)]
theorem wtB_c {u u' : rg_U} {a : Nat} (h : u'.2.1 30 = u.2.1 30) : ∀ n, wtB u' a n = wtB u a n
  | 0 => rfl
  | n + 1 => by
    unfold wtB
    rw [h, wtB_c h n]
/-- a place is watched, or no more -/
theorem wtB_x {u : rg_U} {a k n : Nat} {y : Int32} (hn : n ≤ 32) (hk : k < n) (hy : y = 0 ∨ y = 1) (h1 : u.2.1 30 (a + k) = 0 ∨ u.2.1 30 (a + k) = 1) (h : ¬ u.2.1 30 (a + k) = y) : wtB (rg_R u 30 (a + k) y) a n = wtB u a n ^^^ dx_shl 1 (nI k) := by
  refine b_ext fun i hi => ?_
  rw [b_xor, wtB_bit hi n hn, wtB_bit hi n hn, bt_shl (by omega) hi, R_s]
  by_cases q : i = k
  · subst q
    rw [pk_us, show decide (i = i) = true from decide_eq_true rfl]
    have e : (¬ y = 0) ↔ u.2.1 30 (a + i) = 0 := by
      rcases hy with rfl | rfl <;> rcases h1 with z | z
      · exact absurd z h
      · rw [z]; exact ⟨fun w => absurd rfl w, fun w => absurd w (by decide)⟩
      · rw [z]; exact ⟨fun _ => rfl, fun _ => by decide⟩
      · exact absurd z h
    by_cases z : u.2.1 30 (a + i) = 0
    · rw [decide_eq_true (show i < n ∧ ¬ y = 0 from ⟨hk, e.mpr z⟩), decide_eq_false (fun w => w.2 z)]
      rfl
    · rw [decide_eq_false (fun w => z (e.mp w.2)), decide_eq_true (show i < n ∧ ¬ u.2.1 30 (a + i) = 0 from ⟨hk, z⟩)]
      rfl
  · rw [pk_un (by omega), show decide (i = k) = false from decide_eq_false q, Bool.xor_false]
theorem wtB_o {u : rg_U} {a p : Nat} {y : Int32} : ∀ n, (∀ k, k < n → a + k ≠ p) → wtB (rg_R u 30 p y) a n = wtB u a n
  | 0, _ => rfl
  | n + 1, h => by
    unfold wtB
    rw [wtB_o n (fun k hk => h k (by omega)), R_s, pk_un (h n (by omega))]
def WR (uc um : rg_U) : Prop := rF uc 0 11 = wtB um 0 8 ∧ rF uc 0 12 = wtB um 8 32
section YB
variable {F p k : Nat} {uc um um' : rg_U}
theorem c_isWatched (h : WR uc um) (h01 : ∀ p, p < 40 → um.2.1 30 p = 0 ∨ um.2.1 30 p = 1) (hp : p < 40) : g_X9_isWatched F (nI p) uc = some (um.2.1 30 p) := by
  unfold g_X9_isWatched
  rw [if_neg (by rw [cl_place]; exact in_nI (a := 0) (b := 39) (by omega) (by omega) (by decide)), h.1, h.2]
  have fin : ∀ (a n k : Nat), n ≤ 32 → k < n → a + k = p → (if (dx_shr (wtB um a n) (nI k) &&& 1) = 1 then some (1 : Int32) else some 0) = some (um.2.1 30 p) := by
    intro a n k hn hk e
    by_cases z : um.2.1 30 p = 0
    · rw [if_neg, z]
      rw [bt_shr (by omega), wtB_bit (by omega) n hn, e]
      intro w
      exact absurd (of_decide_eq_true w).2 (fun y => y z)
    · rw [if_pos, (h01 p hp).resolve_left z]
      rw [bt_shr (by omega), wtB_bit (by omega) n hn, e]
      exact decide_eq_true ⟨hk, z⟩
  by_cases q : p < 8
  · rw [if_neg (show ¬ (8 : Int32) ≤ nI p from nI_ge (a := p) (b := 8) q (by decide))]
    exact fin 0 8 p (by omega) q (by omega)
  · rw [if_pos (show (8 : Int32) ≤ nI p from nI_le (a := 8) (b := p) (by omega) (by omega)), show nI p - 8 = nI (p - 8) from nI_sub (a := p) (b := 8) (by omega)]
    exact fin 8 32 (p - 8) (by omega) (by omega) (by omega)
theorem c_notWatched : g_X9_isWatched F (-1) uc = some 0 := by
  unfold g_X9_isWatched
  rw [if_pos (by decide)]
theorem wcS_same (h30 : um'.2.1 30 = um.2.1 30) (h : ∀ p, p < 40 → um'.2.1 28 (80 + p) = um.2.1 28 (80 + p)) : ∀ k, k ≤ 40 → wcS um' k = wcS um k
  | 0, _ => rfl
  | k + 1, hk => by
    unfold wcS
    rw [wcS_same h30 h k (by omega), h30, h k (by omega)]
theorem wcS_one (h30 : um'.2.1 30 = um.2.1 30) (h : ∀ q, q < 40 → q ≠ p → um'.2.1 28 (80 + q) = um.2.1 28 (80 + q)) (h1 : um'.2.1 28 (80 + p) = um.2.1 28 (80 + p) + 1) : ∀ k, k ≤ 40 → wcS um' k = wcS um k + (if p < k ∧ ¬ um.2.1 30 p = 0 then 1 else 0)
  | 0, _ => by rw [if_neg (by omega)]; rfl
  | k + 1, hk => by
    unfold wcS
    rw [wcS_one h30 h h1 k (by omega), h30]
    by_cases q : p = k
    · subst q
      rw [if_neg (c := p < p ∧ ¬ um.2.1 30 p = 0) (fun z => by omega), Int32.add_zero]
      by_cases z : um.2.1 30 p = 0
      · simp only [if_pos z]
        rw [if_neg (c := p < p + 1 ∧ ¬ um.2.1 30 p = 0) (fun y => y.2 z), Int32.add_zero, Int32.add_zero]
      · simp only [if_neg z]
        rw [if_pos (c := p < p + 1 ∧ ¬ um.2.1 30 p = 0) ⟨by omega, z⟩, h1, Int32.add_assoc]
    · rw [h k (by omega) (by omega)]
      by_cases z : p < k ∧ ¬ um.2.1 30 p = 0
      · rw [if_pos (c := p < k ∧ ¬ um.2.1 30 p = 0) z, if_pos (c := p < k + 1 ∧ ¬ um.2.1 30 p = 0) ⟨by omega, z.2⟩]
        generalize (if um.2.1 30 k = 0 then 0 else um.2.1 28 (80 + k)) = y
        rw [Int32.add_assoc, Int32.add_comm 1 y, ← Int32.add_assoc]
      · rw [if_neg (c := p < k ∧ ¬ um.2.1 30 p = 0) z, if_neg (c := p < k + 1 ∧ ¬ um.2.1 30 p = 0) (fun y => z ⟨by omega, y.2⟩), Int32.add_zero, Int32.add_zero]
end YB
end W_77
section W_78
-- 97zzk.rel
/-! the class and the reference: what holds of both, and the small calls -/
def RelC (pB : Prop) (uc um : rg_U) : Prop := ∃ K W, okM um K W ∧ okX uc ∧ OutR uc um W ∧ WR uc um ∧ (rF uc 0 6 = nI K ∧ rF uc 0 8 = um.1 30 ∧ rF uc 0 9 = um.1 4 ∧ rF uc 0 10 = um.1 5 ∧ (pB → rF uc 0 13 = um.1 35)) ∧ (rG uc 0 7 = some 116 ↔ um.2.1 5 4 = 1) ∧ (∀ z k, z < 4 → k < 64 → uc.2.1 (2 + z) k = um.2.1 (1 + z) k) ∧ (um.2.1 5 4 = 1 → RR pB uc um 116 4) ∧ ∀ r, r < K → RR pB uc um (151 + 34 * r) r ∧ rF uc (151 + 34 * r) 14 = um.2.1 22 r
/-- both return, answer the same, and what holds of both holds behind it -/
def SB (pB : Prop) (gc gm : rg_U → Option (Int32 × rg_U)) : Prop := ∀ uc um, RelC pB uc um → ∃ zc zm, gc uc = some zc ∧ gm um = some zm ∧ zc.1 = zm.1 ∧ RelC pB zc.2 zm.2
section YC
variable {pB : Prop} {F K W : Nat} {uc um uc' um' : rg_U} {x y z v a b c d e : Int32}
theorem tt_get {α : Type} {x : Option α} {y : α} {P : α → Prop} (h : Tt x P) (e : x = some y) : P y := by
  obtain ⟨r, e2, hr⟩ := h
  rw [e] at e2
  cases e2
  exact hr
theorem Cr100 (h : coreM um K W) {r : Nat} (hr : act um K r) : Cr um r ≤ 100 := (h.2.2.2.2.1 r hr).2.2.2.2.2.2.2.2.1
/-- the kept runs stay -/
theorem Rel_kept (hm : okM um K W) (h : ∀ r, r < K → RR pB uc um (151 + 34 * r) r ∧ rF uc (151 + 34 * r) 14 = um.2.1 22 r) (ha : ∀ j, 150 ≤ j → uc'.2.1 j = uc.2.1 j) (hf : ∀ k, 15000 ≤ k → uc'.1 k = uc.1 k) (hg : ∀ r, r < 4 → agR um um' r) : ∀ r, r < K → RR pB uc' um' (151 + 34 * r) r ∧ rF uc' (151 + 34 * r) 14 = um'.2.1 22 r := fun r hr => by
  have hK := hm.1.1.2.1
  obtain ⟨h1, h2⟩ := h r hr
  refine ⟨RR_f (RR_g h1 (Cr100 hm.1 (Or.inl hr)) (hg r (by omega))) (fun j j1 _ => ha j (by omega)) (fun k k1 _ => hf k (by omega)), ?_⟩
  rw [(hg r (by omega)).2.2.1 22 (Or.inr (Or.inr (by decide)))]
  exact (hf _ (by omega)).trans h2
theorem OutR_c (h : OutR uc um W) (h1 : uc'.1 601 = uc.1 601) (h2 : uc'.1 602 = uc.1 602) (h3 : uc'.1 603 = uc.1 603) (h7 : uc'.2.1 7 = uc.2.1 7) (h29 : um'.2.1 29 = um.2.1 29) (h34 : um'.1 34 = um.1 34) : OutR uc' um' W := by
  obtain ⟨A, o1, o2, o3⟩ := h
  refine ⟨A, ⟨h1.trans o1.1, h2.trans o1.2.1, o1.2.2⟩, fun i hi => ?_, ?_⟩
  · unfold wt9
    rw [h7, h29]
    exact o2 i hi
  · rw [h34]
    exact h3.trans o3
theorem WR_c (h : WR uc um) (h1 : uc'.1 11 = uc.1 11) (h2 : uc'.1 12 = uc.1 12) (h30 : um'.2.1 30 = um.2.1 30) : WR uc' um' := ⟨h1.trans (h.1.trans (wtB_c h30 8).symm), h2.trans (h.2.trans (wtB_c h30 32).symm)⟩
/-- small changes on both sides, none of them in a run -/
theorem Rel_small {K' : Nat} (h : RelC pB uc um) (hm : ∀ K W, okM um K W → okM um' K W) (hX : okX uc') (ha : ∀ j, 6 ≤ j → uc'.2.1 j = uc.2.1 j) (hf : ∀ k, 100 ≤ k → uc'.1 k = uc.1 k) (hA : ∀ j, 5 ≤ j → j ≤ 29 → um'.2.1 j = um.2.1 j) (hF : ∀ k, 6 ≤ k → k ≤ 34 → k ≠ 30 → um'.1 k = um.1 k) (hG : uc'.2.2.1 7 = uc.2.2.1 7) (hW : WR uc' um') (h6 : rF uc' 0 6 = rF uc 0 6) (h8 : rF uc' 0 8 = um'.1 30) (h9 : rF uc' 0 9 = um'.1 4) (h10 : rF uc' 0 10 = um'.1 5) (h13 : pB → rF uc' 0 13 = um'.1 35) (hp : ∀ z k, z < 4 → k < 64 → uc'.2.1 (2 + z) k = um'.2.1 (1 + z) k) : RelC pB uc' um' := by
  obtain ⟨K, W, r1, r2, r3, r4, ⟨s1, s2, s3, s4, s5⟩, r6, r7, r8, r9⟩ := h
  have e5 := hA 5 (by omega) (by omega)
  have hg : ∀ r, agR um um' r := fun r => agR_A (fun j j1 j2 => hA j (by omega) (by omega))
  refine ⟨K, W, hm K W r1, hX, OutR_c r3 (hf _ (by omega)) (hf _ (by omega)) (hf _ (by omega)) (ha 7 (by omega)) (hA 29 (by omega) (by omega)) (hF 34 (by omega) (by omega) (by omega)), hW, ⟨h6.trans s1, h8, h9, h10, h13⟩, ?_, hp, fun h1 => ?_, Rel_kept r1 r9 (fun j hj => ha j (by omega)) (fun k hk => hf k (by omega)) (fun r _ => hg r)⟩
  · rw [e5, show rG uc' 0 7 = rG uc 0 7 from hG]
    exact r6
  · rw [e5] at h1
    exact RR_f (RR_g (r8 h1) (Cr100 r1.1 (Or.inr ⟨rfl, h1⟩)) (hg 4)) (fun j j1 _ => ha j (by omega)) (fun k k1 _ => hf k (by omega))
theorem wr4_at {u : rg_U} {j k i z : Nat} {x a b c : Int32} (hz : z < 4) : (wr4 u j k x a b c).2.1 (j + z) i = if i = k then (if z = 0 then x else if z = 1 then a else if z = 2 then b else c) else u.2.1 (j + z) i := by
  unfold wr4
  rw [R_at, R_at, R_at, R_at]
  by_cases q : i = k
  · subst q
    rcases (show z = 0 ∨ z = 1 ∨ z = 2 ∨ z = 3 by omega) with rfl | rfl | rfl | rfl <;> simp
  · rw [if_neg (fun y => q y.2), if_neg (fun y => q y.2), if_neg (fun y => q y.2), if_neg (fun y => q y.2), if_neg q]
theorem sb_code : SB pB (g_X9_code F a b c d e) (g_X10_code F a b c d e) := fun uc um h => by
  obtain ⟨K, W, r1, r2, r3, r4, ⟨s1, s2, s3, s4, s5⟩, r6, r7, r8, r9⟩ := id h
  rcases c_code (F := F) (a := a) (b := b) (c := c) (d := d) (e := e) (u := uc) with ⟨n1, q1⟩ | ⟨k, hk, ek, y1, q1⟩ <;> rcases m_code (F := F) (a1 := a) (a2 := b) (a3 := c) (a4 := d) (a5 := e) r1 with ⟨n2, q2⟩ | ⟨k2, hk2, ek2, y2, q2, hok⟩
  · exact ⟨_, _, q1, q2, rfl, h⟩
  · rcases n1 with z | z
    · rw [ek2] at z
      exact absurd z (in_nI (a := 0) (b := 63) (by omega) (by omega) (by decide))
    · exact absurd z y2
  · rcases n2 with z | z
    · rw [ek] at z
      exact absurd z (in_nI (a := 0) (b := 63) (by omega) (by omega) (by decide))
    · exact absurd z y1
  · have ekk : k = k2 := nI_inj (by omega) (by omega) (ek.symm.trans ek2)
    subst ekk
    refine ⟨_, _, q1, q2, rfl, Rel_small (K' := K) h (fun K W hm => ?_) (okX_s r2 rfl rfl) (fun j hj => wr4_n (by omega)) (fun _ _ => rfl) (fun j j1 j2 => wr4_n (by omega)) (fun _ _ _ _ => rfl) rfl (WR_c r4 rfl rfl (wr4_n (by omega))) rfl s2 s3 s4 s5 (fun z i hz hi => ?_)⟩
    · rcases m_code (F := F) (a1 := a) (a2 := b) (a3 := c) (a4 := d) (a5 := e) hm with ⟨n2, q3⟩ | ⟨k3, hk3, ek3, y3, q3, hok3⟩
      · rw [q2] at q3
        have := congrArg (fun o : Option (Int32 × rg_U) => o.map (fun p => p.1)) q3
        exact absurd (show (1 : Int32) = 0 from Option.some.inj this) (by decide)
      · have e3 : k3 = k := nI_inj (by omega) (by omega) (ek3.symm.trans ek2)
        subst e3
        exact hok3
    · rw [wr4_at hz, wr4_at hz, r7 z i hz hi]
theorem sb_spacing : SB pB (g_X9_spacing F x y) (g_X10_spacing F x y) := fun uc um h => by
  obtain ⟨K, W, r1, r2, r3, r4, ⟨s1, s2, s3, s4, s5⟩, r6, r7, r8, r9⟩ := id h
  rcases c_spacing (F := F) (x := x) (y := y) (u := uc) with ⟨n1, q1⟩ | ⟨y1, q1⟩ <;> rcases m_spacing (F := F) (x := x) (y := y) r1 with ⟨n2, q2⟩ | ⟨y2, q2, hok⟩
  · exact ⟨_, _, q1, q2, rfl, h⟩
  · exact absurd n1 y2
  · exact absurd n2 y1
  · refine ⟨_, _, q1, q2, rfl, Rel_small (K' := K) h (fun K W hm => ?_) (okX_n (okX_n r2 (by decide)) (by decide)) (fun _ _ => rfl) (fun k hk => by rw [sF_n (by omega), sF_n (by omega)]) (fun _ _ _ => rfl) (fun k k1 k2 _ => by rw [sF_n (by omega), sF_n (by omega)]) rfl (WR_c r4 (by rw [sF_n (by omega), sF_n (by omega)]) (by rw [sF_n (by omega), sF_n (by omega)]) rfl) ?_ ?_ ?_ ?_ ?_ r7⟩
    · rcases m_spacing (F := F) (x := x) (y := y) hm with ⟨n2, -⟩ | ⟨-, -, hok3⟩
      · exact absurd n2 y2
      · exact hok3
    · show (sF (sF uc 0 9 x) 0 10 y).1 6 = _
      rw [sF_n (by omega), sF_n (by omega)]
      rfl
    · show (sF (sF uc 0 9 x) 0 10 y).1 8 = (sF (sF um 0 4 x) 0 5 y).1 30
      rw [sF_n (by omega), sF_n (by omega), sF_n (by omega), sF_n (by omega)]
      exact s2
    · show (sF (sF uc 0 9 x) 0 10 y).1 9 = (sF (sF um 0 4 x) 0 5 y).1 4
      rw [sF_n (show 9 ≠ 100 * 0 + 10 by omega), sF_n (show 4 ≠ 100 * 0 + 5 by omega)]
      exact (sF_y (u := uc) (j := 0) (s := 9)).trans (sF_y (u := um) (j := 0) (s := 4)).symm
    · exact sF_y.trans (sF_y (u := sF um 0 4 x) (j := 0) (s := 5)).symm
    · intro hb
      show (sF (sF uc 0 9 x) 0 10 y).1 13 = (sF (sF um 0 4 x) 0 5 y).1 35
      rw [sF_n (by omega), sF_n (by omega), sF_n (by omega), sF_n (by omega)]
      exact s5 hb
theorem sb_use : SB pB (g_X9_use F x) (g_X10_use F x) := fun uc um h => by
  obtain ⟨K, W, r1, r2, r3, r4, ⟨s1, s2, s3, s4, s5⟩, r6, r7, r8, r9⟩ := id h
  have hK := r1.1.1.2.1
  have fin : (x = -1 ∨ ∃ r, r < K ∧ x = nI r) → RelC pB (sF uc 0 8 x) (sF um 0 30 x) := fun hx => by
    refine Rel_small (K' := K) h (fun K2 W2 hm => ?_) (okX_n r2 (by decide)) (fun _ _ => rfl) (fun k hk => sF_n (by omega)) (fun _ _ _ => rfl) (fun k k1 k2 k3 => sF_n (by omega)) rfl (WR_c r4 (sF_n (by omega)) (sF_n (by omega)) rfl) (sF_n (by omega)) (sF_y.trans sF_y.symm) ((sF_n (by omega)).trans (s3.trans (sF_n (by omega)).symm)) ((sF_n (by omega)).trans (s4.trans (sF_n (by omega)).symm)) (fun hb => (sF_n (by omega)).trans ((s5 hb).trans (sF_n (by omega)).symm)) r7
    have eK : K2 = K := nI_inj (by have := hm.1.1.2.1; omega) (by omega) (hm.1.1.1.symm.trans r1.1.1.1)
    rcases m_use (F := F) (x := x) hm with ⟨-, -, w⟩ | ⟨w, -⟩
    · exact w
    · rw [eK] at w
      exact absurd hx w
  have hc : g_X9_use F x uc = (if x = -1 ∨ ∃ r, r < K ∧ x = nI r then some (1, sF uc 0 8 x) else some (0, uc)) := by
    unfold g_X9_use g_X9_isKept
    by_cases q : x = -1
    · rw [if_pos q, lt1_i, if_pos (Or.inl q)]
    · rw [if_neg q, s1]
      by_cases q1 : x < 0
      · rw [if_pos q1, ob_i, if_pos rfl, if_neg (fun z => by
          rcases z with z | ⟨r, hr, e⟩
          · exact q z
          · rw [e] at q1; exact nI_pos (by omega) q1)]
      · obtain ⟨k, hk, rfl⟩ := nI_of q1
        rw [if_neg q1]
        by_cases q2 : k < K
        · rw [if_neg (nI_ge q2 (by omega)), if_neg (show ¬ (4 : Int32) ≤ nI k from nI_ge (a := k) (b := 4) (by omega) (by decide)), ob_i, if_neg (by decide), lt1_i, if_pos (Or.inr ⟨k, q2, rfl⟩)]
        · rw [if_pos (nI_le (by omega) hk), ob_i, if_pos rfl, if_neg (fun z => by
            rcases z with z | ⟨r, hr, e⟩
            · exact q z
            · have := nI_inj hk (by omega) e
              omega)]
  rcases m_use (F := F) (x := x) r1 with ⟨w1, w2, -⟩ | ⟨w1, w2⟩
  · exact ⟨(1, sF uc 0 8 x), _, by rw [hc, if_pos w1], w2, rfl, fin w1⟩
  · exact ⟨(0, uc), _, by rw [hc, if_neg w1], w2, rfl, h⟩
theorem sb_watch (hy : y = 0 ∨ y = 1) : SB pB (g_X9_watch F x y) (g_X10_watch F x y) := fun uc um h => by
  obtain ⟨K, W, r1, r2, r3, r4, ⟨s1, s2, s3, s4, s5⟩, r6, r7, r8, r9⟩ := id h
  have h01 := r1.1.2.2.2.2.2.2.2
  rcases m_watch (F := F) (x := x) (y := y) r1 hy with ⟨n1, q1⟩ | ⟨p, hp, rfl, ⟨q0, q1⟩ | ⟨q0, q1, hok⟩⟩
  · refine ⟨(0, uc), _, ?_, q1, rfl, h⟩
    unfold g_X9_watch
    rw [cl_place, if_pos n1]
  · refine ⟨(0, uc), _, ?_, q1, rfl, h⟩
    unfold g_X9_watch
    rw [if_neg (by rw [cl_place]; exact in_nI (a := 0) (b := 39) (by omega) (by omega) (by decide)), c_isWatched r4 h01 hp, ob_i, if_pos q0]
  · have hokK : ∀ K W, okM um K W → okM (rg_R um 30 p y) K W := fun K2 W2 hm => by
      rcases m_watch (F := F) (x := nI p) (y := y) hm hy with ⟨n1, -⟩ | ⟨p2, hp2, ep, ⟨q3, -⟩ | ⟨-, -, w⟩⟩
      · exact absurd n1 (in_nI (a := 0) (b := 39) (by omega) (by omega) (by decide))
      · have := nI_inj (by omega) (by omega) ep
        subst this
        exact absurd q3 q0
      · have := nI_inj (by omega) (by omega) ep
        subst this
        exact w
    have hcls : g_X9_watch F (nI p) y uc = some (1, if 8 ≤ p then sF uc 0 12 (rF uc 0 12 ^^^ dx_shl 1 (nI (p - 8))) else sF uc 0 11 (rF uc 0 11 ^^^ dx_shl 1 (nI p))) := by
      unfold g_X9_watch
      rw [if_neg (by rw [cl_place]; exact in_nI (a := 0) (b := 39) (by omega) (by omega) (by decide)), c_isWatched r4 h01 hp, ob_i, if_neg q0]
      by_cases z : 8 ≤ p
      · rw [if_pos (show (8 : Int32) ≤ nI p from nI_le (a := 8) (b := p) z (by omega)), if_pos z, lt1_i, show nI p - 8 = nI (p - 8) from nI_sub (a := p) (b := 8) z]
      · rw [if_neg (show ¬ (8 : Int32) ≤ nI p from nI_ge (a := p) (b := 8) (by omega) (by decide)), if_neg z, lt1_i]
    refine ⟨_, _, hcls, q1, rfl, ?_⟩
    dsimp only
    by_cases z : 8 ≤ p
    · rw [if_pos z]
      refine Rel_small (K' := K) h hokK (okX_n r2 (by decide)) (fun _ _ => rfl) (fun k hk => sF_n (by omega)) (fun j j1 j2 => R_n (by omega)) (fun _ _ _ _ => rfl) rfl ⟨?_, ?_⟩ (sF_n (by omega)) ((sF_n (by omega)).trans s2) ((sF_n (by omega)).trans s3) ((sF_n (by omega)).trans s4) (fun hb => (sF_n (by omega)).trans (s5 hb)) (fun z' k hz hk => by rw [R_n (by omega)]; exact r7 z' k hz hk)
      · rw [wtB_o 8 (fun k hk => by omega)]
        exact (sF_n (by omega)).trans r4.1
      · have := wtB_x (u := um) (a := 8) (k := p - 8) (n := 32) (y := y) (by omega) (by omega) hy (by rw [show 8 + (p - 8) = p by omega]; exact h01 p hp) (by rw [show 8 + (p - 8) = p by omega]; exact q0)
        rw [show 8 + (p - 8) = p by omega] at this
        rw [this, sF_y, r4.2]
    · rw [if_neg z]
      refine Rel_small (K' := K) h hokK (okX_n r2 (by decide)) (fun _ _ => rfl) (fun k hk => sF_n (by omega)) (fun j j1 j2 => R_n (by omega)) (fun _ _ _ _ => rfl) rfl ⟨?_, ?_⟩ (sF_n (by omega)) ((sF_n (by omega)).trans s2) ((sF_n (by omega)).trans s3) ((sF_n (by omega)).trans s4) (fun hb => (sF_n (by omega)).trans (s5 hb)) (fun z' k hz hk => by rw [R_n (by omega)]; exact r7 z' k hz hk)
      · have := wtB_x (u := um) (a := 0) (k := p) (n := 8) (y := y) (by omega) (by omega) hy (by rw [Nat.zero_add]; exact h01 p hp) (by rw [Nat.zero_add]; exact q0)
        rw [Nat.zero_add] at this
        rw [this, sF_y, r4.1]
      · rw [wtB_o 32 (fun k hk => by omega)]
        exact (sF_n (by omega)).trans r4.2
theorem sb_seed : SB pB (g_X9_seed F x) (g_X10_seed F x) := fun uc um h => by
  obtain ⟨K, W, r1, r2, ⟨A, o1, o2, o3⟩, r4, ⟨s1, s2, s3, s4, s5⟩, r6, r7, r8, r9⟩ := id h
  refine ⟨_, _, rfl, (m_seed r1).1, o3, ?_⟩
  have hg : ∀ r, agR um (sF um 0 34 x) r := fun r => agR_A (fun _ _ _ => rfl)
  refine ⟨K, W, (m_seed (F := F) r1).2, okX_n r2 (by decide), ⟨A, ⟨(sF_n (by omega)).trans o1.1, (sF_n (by omega)).trans o1.2.1, o1.2.2⟩, o2, sF_y.trans sF_y.symm⟩, WR_c r4 (sF_n (by omega)) (sF_n (by omega)) rfl, ⟨(sF_n (by omega)).trans s1, (sF_n (by omega)).trans (s2.trans (sF_n (by omega)).symm), (sF_n (by omega)).trans (s3.trans (sF_n (by omega)).symm), (sF_n (by omega)).trans (s4.trans (sF_n (by omega)).symm), fun hb => (sF_n (by omega)).trans ((s5 hb).trans (sF_n (by omega)).symm)⟩, r6, r7, fun h1 => RR_f (RR_g (r8 h1) (Cr100 r1.1 (Or.inr ⟨rfl, h1⟩)) (hg 4)) (fun _ _ _ => rfl) (fun k k1 _ => sF_n (by omega)), Rel_kept r1 r9 (fun _ _ => rfl) (fun k hk => sF_n (by omega)) (fun r _ => hg r)⟩
theorem now_iff (hX : okX uc) (h : rG uc 0 7 = some 116 ↔ um.2.1 5 4 = 1) (h01 : um.2.1 5 4 = 0 ∨ um.2.1 5 4 = 1) : (rG uc 0 7 = none ∧ um.2.1 5 4 = 0) ∨ (rG uc 0 7 = some 116 ∧ um.2.1 5 4 = 1) := by
  rcases hX.2.1 with e | e
  · refine Or.inl ⟨e, h01.resolve_right (fun z => ?_)⟩
    have := h.mpr z
    rw [show rG uc 0 7 = none from e] at this
    cases this
  · exact Or.inr ⟨e, h.mp e⟩
theorem sb_give : SB pB (g_X9_give F x) (g_X10_give F x) := fun uc um h => by
  obtain ⟨K, W, r1, r2, r3, r4, ⟨s1, s2, s3, s4, s5⟩, r6, r7, r8, r9⟩ := id h
  obtain ⟨A, o1, o2, o3⟩ := id r3
  have hw2 : rF uc 6 2 = nI W := o1.2.1
  have hW9 := o1.2.2.2
  rcases now_iff r2 r6 r1.1.2.1.1 with ⟨e7, e5⟩ | ⟨e7, e5⟩
  · rcases m_give (F := F) (v := x) r1 with ⟨-, q⟩ | ⟨w, -⟩
    · refine ⟨(-1, uc), _, ?_, q, rfl, h⟩
      unfold g_X9_give
      rw [e7, om_0]
    · rw [e5] at w
      exact absurd w (by decide)
  · rcases m_give (F := F) (v := x) r1 with ⟨w, q⟩ | ⟨-, w, q, hok⟩
    · refine ⟨(-1, uc), _, ?_, q, rfl, h⟩
      unfold g_X9_give
      rw [e7, om_i, ck_t (Or.inl rfl), hw2, if_neg (show ¬ nI W < 100 from nI_nlt (a := W) (b := 100) (by have : ¬ W < 100 := fun z => w ⟨e5, z⟩; omega) (by omega))]
    · obtain ⟨w1, e1, e2, e3, e4, e5'⟩ := c_addLast (F := F) (x := x) o1 (by omega)
      refine ⟨(nI (W + 1), w1), _, ?_, q, rfl, ?_⟩
      · unfold g_X9_give
        rw [e7, om_i, ck_t (Or.inl rfl), hw2, if_pos (show nI W < 100 from nI_lt (a := W) (b := 100) w (by decide)), e1, ob_i, e2.2.1]
      · have hg : ∀ r, agR um (sF (rg_R um 29 W x) 0 33 (nI (W + 1))) r := fun r => agR_A (fun j j1 j2 => R_n (by omega))
        have wf : ∀ k, k ≠ 602 → w1.1 k = uc.1 k := fun k hk => by rw [e3]; exact sF_n hk
        have wa : ∀ j, j ≠ 7 → w1.2.1 j = uc.2.1 j := fun j hj => by rw [e3, sF_A]; exact R_n hj
        refine ⟨K, W + 1, hok, tt_get (y := (nI (W + 1), w1)) (P := fun z => okX z.2) (tt_w (wk_give (F := F) (x := x) (wx_r r2.1) r2.2) (fun _ hz => okX_w r2 hz)) ?_, ⟨A, e2, fun i hi => ?_, ?_⟩, WR_c r4 (wf _ (by omega)) (wf _ (by omega)) (R_n (by omega)), ⟨(wf _ (by omega)).trans s1, (wf _ (by omega)).trans (s2.trans (sF_n (by omega)).symm), (wf _ (by omega)).trans (s3.trans (sF_n (by omega)).symm), (wf _ (by omega)).trans (s4.trans (sF_n (by omega)).symm), fun hb => (wf _ (by omega)).trans ((s5 hb).trans (sF_n (by omega)).symm)⟩, ?_, fun z k hz hk => ?_, fun h1 => RR_f (RR_g (r8 e5) (Cr100 r1.1 (Or.inr ⟨rfl, e5⟩)) (hg 4)) (fun j j1 _ => wa j (by omega)) (fun k k1 _ => wf k (by omega)), Rel_kept r1 r9 (fun j hj => wa j (by omega)) (fun k hk => wf k (by omega)) (fun r _ => hg r)⟩
        · unfold g_X9_give
          rw [e7, om_i, ck_t (Or.inl rfl), hw2, if_pos (show nI W < 100 from nI_lt (a := W) (b := 100) w (by decide)), e1, ob_i, e2.2.1]
        · rw [sF_A, R_s]
          rcases Nat.lt_or_ge i W with y | y
          · rw [pk_un (by omega), e4 i y, o2 i y]
          · rw [show i = W by omega, pk_us, e5']
        · exact (wf _ (by omega)).trans (o3.trans (sF_n (by omega)).symm)
        · rw [show rG w1 0 7 = rG uc 0 7 by rw [e3]; rfl, sF_A, R_n (by omega)]
          exact r6
        · rw [wa _ (by omega), sF_A, R_n (by omega)]
          exact r7 z k hz hk
end YC
end W_78
