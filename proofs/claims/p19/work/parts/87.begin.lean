/-! begin, on both sides: what it answers, and what lies there then -/
theorem R_at {u : rg_U} {j i j' i' : Nat} {v : Int32} : (rg_R u j i v).2.1 j' i' = if j' = j ∧ i' = i then v else u.2.1 j' i' := by
  unfold rg_R va_up upd
  dsimp only
  by_cases h : j' = j
  · subst h
    rw [if_pos rfl]
    by_cases h2 : i' = i
    · rw [if_pos h2, if_pos ⟨rfl, h2⟩]
    · rw [if_neg h2, if_neg (fun q => h2 q.2)]
  · rw [if_neg h, if_neg (fun q => h q.1)]
theorem sA_nI {u : rg_U} {j k : Nat} {v : Int32} (h : k < 2 ^ 31) : sA u j (nI k) v = rg_R u j k v := by
  unfold sA
  rw [nI_clamp h]
theorem sZ_nI {u : rg_U} {j k : Nat} {v : Int32} (h : k < 2 ^ 31) : sZ u j (nI k) v = rg_R u j k (vp_nar .boolean v) := by
  unfold sZ
  rw [nI_clamp h]
theorem rA_nI {u : rg_U} {j k : Nat} (h : k < 2 ^ 31) : rA u j (nI k) = u.2.1 j k := by
  unfold rA
  rw [nI_clamp h]
theorem R_1 {u : rg_U} {j i : Nat} {v : Int32} : (rg_R u j i v).1 = u.1 := rfl
theorem R_2 {u : rg_U} {j i : Nat} {v : Int32} : (rg_R u j i v).2.2 = u.2.2 := rfl
def cntK (f : Nat → Int32) : Nat → Nat
  | 0 => 0
  | k + 1 => cntK f k + (if f k = -1 then 0 else 1)
theorem cntK_le (f : Nat → Int32) : ∀ k, cntK f k ≤ k
  | 0 => Nat.le_refl _
  | k + 1 => by
    unfold cntK
    have := cntK_le f k
    by_cases h : f k = -1
    · rw [if_pos h]; omega
    · rw [if_neg h]; omega
theorem cntK_c {f g : Nat → Int32} : ∀ k, (∀ i, i < k → f i = g i) → cntK f k = cntK g k
  | 0, _ => rfl
  | k + 1, h => by
    unfold cntK
    rw [cntK_c k (fun i hi => h i (by omega)), h k (by omega)]
theorem cntK_0 {f : Nat → Int32} : ∀ k, (∀ i, i < k → f i = -1) → cntK f k = 0
  | 0, _ => rfl
  | k + 1, h => by
    unfold cntK
    rw [cntK_0 k (fun i hi => h i (by omega)), if_pos (h k (by omega))]
/-- nothing but ints of arrays is other -/
def same0 (u u' : rg_U) : Prop := u'.1 = u.1 ∧ u'.2.2 = u.2.2
theorem same0_r {u : rg_U} : same0 u u := ⟨rfl, rfl⟩
theorem same0_R {u u' : rg_U} {j i : Nat} {v : Int32} (h : same0 u u') : same0 u (rg_R u' j i v) := h
/-! the class -/
theorem ipl_nI {k : Nat} (h : k < 64) : ¬ g_X9_isInstructionPlace (nI k) = 0 := by
  rw [cl_ipl]
  exact in_nI (a := 0) (b := 63) (by omega) (by omega) (by decide)
theorem c_write {F o k : Nat} {x a b c : Int32} {u : rg_U} (hk : k < 64) : g_X5_write F o (nI k) x a b c u = some (rg_R (rg_R (rg_R (rg_R u (o + 1) k x) (o + 2) k a) (o + 3) k b) (o + 4) k c) := by
  unfold g_X5_write
  rw [if_neg (ipl_nI hk), ck_t (inb_nI hk (by decide))]
  simp only [lt1_i]
  rw [ck_t (inb_nI hk (by decide)), ck_t (inb_nI hk (by decide)), ck_t (inb_nI hk (by decide)), sA_nI (by omega), sA_nI (by omega), sA_nI (by omega), sA_nI (by omega)]
theorem c_takeFromP {F o p : Nat} {u : rg_U} (hop : o + 4 < p + 1 ∨ p + 4 < o + 1) (hF : 64 < F) : ∃ u', g_X5_takeFrom F o p u = some u' ∧ same0 u u' ∧ ∀ j i, u'.2.1 j i = if (o + 1 ≤ j ∧ j ≤ o + 4) ∧ i < 64 then u.2.1 (j - o + p) i else u.2.1 j i := by
  unfold g_X5_takeFrom
  obtain ⟨r, e, h⟩ := lp_ex (body := fun (s : Int32 × rg_U) => g_X5_takeFrom_l2 F o p s.1 s.2) (P := fun k s => ∃ m, k + m = 64 ∧ s.1 = nI m ∧ same0 u s.2 ∧ ∀ j i, s.2.2.1 j i = if (o + 1 ≤ j ∧ j ≤ o + 4) ∧ i < m then u.2.1 (j - o + p) i else u.2.1 j i) (R := fun u' => same0 u u' ∧ ∀ j i, u'.2.1 j i = if (o + 1 ≤ j ∧ j ≤ o + 4) ∧ i < 64 then u.2.1 (j - o + p) i else u.2.1 j i) (by
    rintro k ⟨s1, s2⟩ ⟨m, hm, e1, h0, hv⟩
    dsimp only at e1 h0 hv
    subst e1
    unfold g_X5_takeFrom_l2
    dsimp only
    by_cases q : m = 64
    · right
      subst q
      exact ⟨s2, if_pos (by decide), h0, hv⟩
    · left
      have hm64 : m < 64 := by omega
      rw [if_neg (show ¬ (64 : Int32) ≤ nI m from nI_ge (a := m) (b := 64) hm64 (by decide)), ck_t (inb_nI hm64 (by decide)), ck_t (inb_nI hm64 (by decide)), ck_t (inb_nI hm64 (by decide)), ck_t (inb_nI hm64 (by decide)), c_write hm64, ob_i, nI_1]
      refine ⟨_, k - 1, rfl, by omega, m + 1, by omega, rfl, h0, fun j i => ?_⟩
      have r1 : ∀ z, z = 1 ∨ z = 2 ∨ z = 3 ∨ z = 4 → rA s2 (p + z) (nI m) = u.2.1 (p + z) m := fun z hz => by
        rw [rA_nI (by omega), hv (p + z) m, if_neg (by omega)]
      rw [r1 1 (by omega), r1 2 (by omega), r1 3 (by omega), r1 4 (by omega)]
      rw [R_at, R_at, R_at, R_at, hv j i]
      by_cases hi : i = m
      · subst hi
        by_cases j4 : j = o + 4
        · subst j4; rw [if_pos ⟨rfl, rfl⟩, if_pos ⟨by omega, by omega⟩, show o + 4 - o + p = p + 4 by omega]
        rw [if_neg (fun q => j4 q.1)]
        by_cases j3 : j = o + 3
        · subst j3; rw [if_pos ⟨rfl, rfl⟩, if_pos ⟨by omega, by omega⟩, show o + 3 - o + p = p + 3 by omega]
        rw [if_neg (fun q => j3 q.1)]
        by_cases j2 : j = o + 2
        · subst j2; rw [if_pos ⟨rfl, rfl⟩, if_pos ⟨by omega, by omega⟩, show o + 2 - o + p = p + 2 by omega]
        rw [if_neg (fun q => j2 q.1)]
        by_cases j1 : j = o + 1
        · subst j1; rw [if_pos ⟨rfl, rfl⟩, if_pos ⟨by omega, by omega⟩, show o + 1 - o + p = p + 1 by omega]
        rw [if_neg (fun q => j1 q.1), if_neg (by omega), if_neg (by omega)]
      · rw [if_neg (fun q => hi q.2), if_neg (fun q => hi q.2), if_neg (fun q => hi q.2), if_neg (fun q => hi q.2)]
        by_cases hj : (o + 1 ≤ j ∧ j ≤ o + 4) ∧ i < m
        · rw [if_pos hj, if_pos ⟨hj.1, by omega⟩]
        · rw [if_neg hj, if_neg (by omega)]) F 64 ((0 : Int32), u) (by omega) ⟨0, rfl, rfl, same0_r, fun j i => by rw [if_neg (by omega)]⟩
  exact ⟨r, by rw [ob_e e], h⟩
theorem c_size {F o : Nat} {u : rg_U} (hF : 64 < F) : g_X5_size F o u = some (nI (cntK (u.2.1 (o + 1)) 64)) := by
  unfold g_X5_size
  have h := lp_up (body := fun (s : Int32 × Int32) => g_X5_size_l4 F o u s.1 s.2) (fun k => (nI (cntK (u.2.1 (o + 1)) k), nI k)) 64 (nI (cntK (u.2.1 (o + 1)) 64)) (fun k hk => by
    show g_X5_size_l4 F o u (nI (cntK (u.2.1 (o + 1)) k)) (nI k) = _
    unfold g_X5_size_l4
    rw [if_neg (show ¬ (64 : Int32) ≤ nI k from nI_ge (a := k) (b := 64) hk (by decide)), ck_t (inb_nI hk (by decide)), rA_nI (by omega)]
    unfold g_X5_size_j23
    by_cases q : u.2.1 (o + 1) k = -1
    · rw [if_pos q, nI_1]
      show _ = some (Sum.inl (nI (cntK (u.2.1 (o + 1)) k + if u.2.1 (o + 1) k = -1 then 0 else 1), nI (k + 1)))
      rw [if_pos q]; rfl
    · rw [if_neg q, nI_1, nI_1]
      show _ = some (Sum.inl (nI (cntK (u.2.1 (o + 1)) k + if u.2.1 (o + 1) k = -1 then 0 else 1), nI (k + 1)))
      rw [if_neg q]) (by
    show g_X5_size_l4 F o u _ (nI 64) = _
    unfold g_X5_size_l4
    rw [if_pos (by decide)]) F 0 (Nat.zero_le _) (by omega)
  rw [show (nI (cntK (u.2.1 (o + 1)) 0), nI 0) = ((0 : Int32), (0 : Int32)) from rfl] at h
  rw [h]
  rfl
/-- a run that has just begun, as the class has it at 116 -/
def c_begun (u : rg_U) : rg_U := sF (sF (sF (sF (sF (sA (sA (sA (sA (sF (sF (sA (sF (sF (sF (sFill (sF (sF u 122 5 0) 128 11 0) 139 40 (-1)) 140 3 0) 144 3 (rF u 0 9)) 144 4 (rF u 0 10)) 145 0 0) 144 1 1) 144 2 1) 146 0 0) 147 0 0) 148 0 0) 149 0 (-1)) 116 9 0) 116 10 0) 116 11 (-1)) 116 12 0) 116 13 0
theorem c_begin {F : Nat} {u : rg_U} (hF : 10000 < F) : ∃ v, same0 (sG u 0 7 (some 116)) v ∧ (∀ j i, v.2.1 j i = if (118 ≤ j ∧ j ≤ 121) ∧ i < 64 then u.2.1 (j - 116) i else u.2.1 j i) ∧ g_X9_begin F u = some (nI (cntK (u.2.1 2) 64), sF (sF (c_begun v) 6 1 0) 6 2 0) := by
  obtain ⟨v, e1, h0, hv⟩ := c_takeFromP (F := F) (o := 117) (p := 1) (u := sG u 0 7 (some 116)) (by omega) (by omega)
  have hv2 : ∀ j i, v.2.1 j i = if (118 ≤ j ∧ j ≤ 121) ∧ i < 64 then u.2.1 (j - 116) i else u.2.1 j i := fun j i => by
    rw [hv j i]
    by_cases q : (118 ≤ j ∧ j ≤ 121) ∧ i < 64
    · rw [if_pos q, if_pos q, show j - 117 + 1 = j - 116 by omega]; rfl
    · rw [if_neg q, if_neg q]; rfl
  refine ⟨v, h0, hv2, ?_⟩
  unfold g_X9_begin
  rw [lt1_i, show rG (sG u 0 7 (some 116)) 0 7 = some 116 from rfl, om_i, ck_t (Or.inl rfl)]
  have e2 : g_X7_start F 116 1 (rF (sG u 0 7 (some 116)) 0 9) (rF (sG u 0 7 (some 116)) 0 10) (sG u 0 7 (some 116)) = some (c_begun v) := by
    unfold g_X7_start
    rw [e1, ob_i]
    simp only [lt1_i]
    unfold g_X6_clear
    simp only [lt1_i]
    rw [g_fill_eq (by decide) (by omega), ob_i, ob_i]
    unfold g_X2_start
    simp only [lt1_i]
    rw [ck_t (by decide), ob_i, ck_t (by decide), ck_t (by decide), ck_t (by decide), ck_t (by decide)]
    have r9 : rF (sG u 0 7 (some 116)) 0 9 = rF v 0 9 := by unfold rF; rw [h0.1]
    have r10 : rF (sG u 0 7 (some 116)) 0 10 = rF v 0 10 := by unfold rF; rw [h0.1]
    rw [r9, r10]
    rfl
  rw [e2, ob_i]
  unfold g_X4_clearInputs
  simp only [lt1_i]
  rw [ob_i, c_size (by omega), ob_i]
  have e3 : (sF (sF (c_begun v) 6 1 0) 6 2 0).2.1 2 = u.2.1 2 := by
    funext i
    show v.2.1 2 i = _
    rw [hv2, if_neg (by omega)]
  rw [e3]
