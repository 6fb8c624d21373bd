/-! align, pair of the reference -/
def xr (r : Nat) : Int32 := if r = 4 then -1 else nI r
theorem m_laysPairs {F K W r1 r2 : Nat} {u : rg_U} (h : coreM u K W) (a1 : act u K r1) (a2 : act u K r2) (hF : 10000 < F) : ∃ w, g_X10_laysPairs F (xr r1) (xr r2) u = some w ∧ w.1 = upd (upd u.1 47 (nI r1)) 48 (nI r2) ∧ (∀ j, j ≠ 35 → w.2.1 j = u.2.1 j) ∧ ∀ i' j', i' ≤ Cr u r1 → j' ≤ Cr u r2 → w.2.1 35 (101 * i' + j') = nI (lL (E35 u r1 r2) (Cr u r1) (Cr u r2) i' j') := by
  have hK := h.1.2.1
  have r15 := act5 hK a1
  have r25 := act5 hK a2
  have h1 := h.2.2.2.2.1 r1 a1
  have h2 := h.2.2.2.2.1 r2 a2
  have hC := h1.2.2.2.2.2.2.2.2.1
  have hD := h2.2.2.2.2.2.2.2.2.1
  have e : ∀ n, nI (n + 1) + (-1) = nI n := fun n => by rw [← nI_1, Int32.add_assoc]; exact Int32.add_zero _
  have key : ∃ w, g_X10_laysPairs_j25 F (nI r2) (sF u 0 47 (nI r1)) = some w ∧ w.1 = upd (upd u.1 47 (nI r1)) 48 (nI r2) ∧ (∀ j, j ≠ 35 → w.2.1 j = u.2.1 j) ∧ ∀ i' j', i' ≤ Cr u r1 → j' ≤ Cr u r2 → w.2.1 35 (101 * i' + j') = nI (lL (E35 u r1 r2) (Cr u r1) (Cr u r2) i' j') := by
    unfold g_X10_laysPairs_j25
    rw [lt1_i]
    have q1 : (sF (sF u 0 47 (nI r1)) 0 48 (nI r2)).1 47 = nI r1 := rfl
    have q2 : (sF (sF u 0 47 (nI r1)) 0 48 (nI r2)).1 48 = nI r2 := rfl
    obtain ⟨w, g1, g2, g3⟩ := m_rowsl (F := F) (C := Cr u r1) (D := Cr u r2) (u := sF (sF u 0 47 (nI r1)) 0 48 (nI r2)) r15 r25 q1 q2 hC hD hF (Cr u r1 + 1) (sF (sF u 0 47 (nI r1)) 0 48 (nI r2)) (Nat.le_refl _) ⟨rfl, fun _ _ => rfl⟩ (fun i' j' b1 b2 => by omega) F (by omega)
    rw [e] at g1
    rw [show rF (sF (sF u 0 47 (nI r1)) 0 48 (nI r2)) 0 47 = nI r1 from rfl, show rF (sF (sF u 0 47 (nI r1)) 0 48 (nI r2)) 0 48 = nI r2 from rfl, ck_t (inb_nI r15 (by decide)), ck_t (inb_nI r25 (by decide)), rA_nI (by omega), rA_nI (by omega), show (sF (sF u 0 47 (nI r1)) 0 48 (nI r2)).2.1 19 r1 = nI (Cr u r1) from h1.2.2.2.2.1, show (sF (sF u 0 47 (nI r1)) 0 48 (nI r2)).2.1 19 r2 = nI (Cr u r2) from h2.2.2.2.2.1, g1, ob_i]
    exact ⟨w, rfl, g2.1, g2.2, g3⟩
  obtain ⟨w, g1, g2⟩ := key
  refine ⟨w, ?_, g2⟩
  have f2 : ∀ s, g_X10_laysPairs_j11 F (xr r2) s u = g_X10_laysPairs_j25 F (nI r2) (sF u 0 47 s) := fun s => by
    unfold g_X10_laysPairs_j11 xr
    rw [lt1_i]
    by_cases z : r2 = 4
    · rw [if_pos z, if_pos rfl, z]; rfl
    · rw [if_neg z, if_neg (nI_m1 (by omega))]
  unfold g_X10_laysPairs
  rw [f2, f2, ← g1]
  unfold xr
  by_cases z : r1 = 4
  · rw [if_pos z, if_pos rfl, z]; rfl
  · rw [if_neg z, if_neg (nI_m1 (by omega))]
theorem pairs_ok {K W r1 r2 : Nat} {u w : rg_U} (h : okM u K W) (h1 : w.1 = upd (upd u.1 47 (nI r1)) 48 (nI r2)) (h2 : ∀ j, j ≠ 35 → w.2.1 j = u.2.1 j) : coreEq u w ∧ okM w K W := by
  have hc : coreEq u w := ⟨fun j hj => h2 j (by omega), fun k hk => by rw [h1, pk_un (by omega), pk_un (by omega)]⟩
  exact ⟨hc, okM_scr h hc (h2 31 (by decide)) (h2 37 (by decide)) (by rw [h1]; rfl) (by rw [h1]; rfl)⟩
theorem m_align {F K W : Nat} {x y : Int32} {u : rg_U} (h : okM u K W) (hF : 10000 < F) : (¬ ((∃ r, act u K r ∧ x = xr r) ∧ ∃ r, act u K r ∧ y = xr r) ∧ g_X10_align F x y u = some (-2, u)) ∨ ∃ r1 r2 w, act u K r1 ∧ x = xr r1 ∧ act u K r2 ∧ y = xr r2 ∧ g_X10_align F x y u = some (nI (lL (E35 u r1 r2) (Cr u r1) (Cr u r2) 0 0), w) ∧ coreEq u w ∧ okM w K W := by
  unfold g_X10_align
  rcases m_there (F := F) (x := x) h.1 with ⟨q1, q2⟩ | ⟨r1, q1, q2, q3⟩
  · rw [q1, ob_i, if_pos rfl]; exact Or.inl ⟨fun z => q2 z.1, rfl⟩
  rw [q1, ob_i, if_neg one_n0]
  rcases m_there (F := F) (x := y) h.1 with ⟨p1, p2⟩ | ⟨r2, p1, p2, p3⟩
  · rw [p1, ob_i, if_pos rfl]; exact Or.inl ⟨fun z => p2 z.2, rfl⟩
  rw [p1, ob_i, if_neg one_n0]
  obtain ⟨w, e1, e2, e3, e4⟩ := m_laysPairs h.1 q2 p2 hF
  have q3' : x = xr r1 := q3
  have p3' : y = xr r2 := p3
  rw [q3', p3', e1, ob_i, ck_t (show inb 0 10201 by decide), show rA w 35 0 = w.2.1 35 (101 * 0 + 0) from rfl, e4 0 0 (Nat.zero_le _) (Nat.zero_le _)]
  obtain ⟨k1, k2⟩ := pairs_ok h e2 e3
  exact Or.inr ⟨r1, r2, w, q2, rfl, p2, rfl, rfl, k1, k2⟩
theorem lL_ex {E : Nat → Nat → Bool} {C D : Nat} : ∀ (f i j : Nat), (C - i) + (D - j) ≤ f → 0 < lL E C D i j → ∃ a b, i ≤ a ∧ a < C ∧ j ≤ b ∧ b < D ∧ E a b = true ∧ 1 + lL E C D (a + 1) (b + 1) = lL E C D i j
  | f, i, j, hf, h0 => by
    have hi : i < C := by
      rcases Nat.lt_or_ge i C with z | z
      · exact z
      · rw [lL_C z] at h0; omega
    have hj : j < D := by
      rcases Nat.lt_or_ge j D with z | z
      · exact z
      · rw [lL_D z] at h0; omega
    match f, hf with
    | 0, hf => omega
    | f + 1, hf =>
    have hs := lL_s (E := E) hi hj
    by_cases c1 : lL E C D i j = lL E C D (i + 1) j
    · obtain ⟨a, b, z1, z2, z3, z4, z5, z6⟩ := lL_ex (E := E) (C := C) (D := D) f (i + 1) j (by omega) (by omega)
      exact ⟨a, b, by omega, z2, z3, z4, z5, by omega⟩
    · by_cases c2 : lL E C D i j = lL E C D i (j + 1)
      · obtain ⟨a, b, z1, z2, z3, z4, z5, z6⟩ := lL_ex (E := E) (C := C) (D := D) f i (j + 1) (by omega) (by omega)
        exact ⟨a, b, z1, z2, by omega, z4, z5, by omega⟩
      · by_cases c3 : E i j = true
        · rw [if_pos c3] at hs
          exact ⟨i, j, Nat.le_refl _, hi, Nat.le_refl _, hj, c3, by omega⟩
        · rw [if_neg c3] at hs
          omega
def hit (E : Nat → Nat → Bool) (C D n a b : Nat) : Prop := E a b = true ∧ 1 + lL E C D (a + 1) (b + 1) = n
def lxl (i j a b : Nat) : Prop := i < a ∨ (i = a ∧ j < b)
theorem m_scan {F r1 r2 C D n j0 : Nat} {x y : Int32} {u : rg_U} {E : Nat → Nat → Bool} (h1 : r1 < 5) (h2 : r2 < 5) (e1 : u.1 47 = nI r1) (e2 : u.1 48 = nI r2) (hE : E35 u r1 r2 = E) (hC : C ≤ 100) (hD : D ≤ 100) (e3 : u.2.1 19 r2 = nI D) (hn : n ≤ 100) (hT : ∀ i' j', i' ≤ C → j' ≤ D → u.2.1 35 (101 * i' + j') = nI (lL E C D i' j')) (hj0 : j0 < D) : ∀ (f i j : Nat), (C - i - 1) * D + (D - j) ≤ f → i < C → j < D → j0 ≤ j → (∃ a b, ¬ lxl a b i j ∧ a < C ∧ j0 ≤ b ∧ b < D ∧ hit E C D n a b) → ∀ G, f < G → ∃ a b, lp (fun (s : Int32 × Int32) => g_X10_finds_l32 F x (nI j0) y (nI n) u s.1 s.2) G (nI i, nI j) = some (nI a, nI b) ∧ ¬ lxl a b i j ∧ a < C ∧ j0 ≤ b ∧ b < D ∧ hit E C D n a b ∧ ∀ a' b', ¬ lxl a' b' i j → lxl a' b' a b → j0 ≤ b' → b' < D → ¬ hit E C D n a' b'
  | f, i, j, hf, hi, hj, hjj, hex, 0, hG => by omega
  | f, i, j, hf, hi, hj, hjj, hex, G + 1, hG => by
    have hl : ∀ a b, lL E C D a b ≤ 100 := fun a b => Nat.le_trans lL_le hC
    have hb1 : hit E C D n i j → g_X10_finds_l32 F x (nI j0) y (nI n) u (nI i) (nI j) = some (.inr (nI i, nI j)) := fun q => by
      unfold g_X10_finds_l32
      rw [m_areLike (F := F) h1 h2 (by omega) (by omega) e1 e2, hE, ob_i, if_pos q.1, if_neg one_n0, show (101 : Int32) * (nI i + 1) + nI j + 1 = nI (101 * (i + 1) + (j + 1)) by rw [nI_1, show (101 : Int32) * nI (i + 1) = nI (101 * (i + 1)) from pk_mul 101 _, nI_add, nI_1, Nat.add_assoc], ck_t (inb_nI (by omega) (by decide)), rA_nI (by omega), hT _ _ (by omega) (by omega), show (1 : Int32) + nI (lL E C D (i + 1) (j + 1)) = nI (1 + lL E C D (i + 1) (j + 1)) from nI_add 1 _, if_pos (by rw [q.2])]
    have hb2 : ¬ hit E C D n i j → g_X10_finds_l32 F x (nI j0) y (nI n) u (nI i) (nI j) = if j + 1 = D then some (.inl (nI (i + 1), nI j0)) else some (.inl (nI i, nI (j + 1))) := fun q => by
      have e67 : g_X10_finds_j67 F x (nI j0) y (nI n) (nI i) (nI j) u = if j + 1 = D then some (.inl (nI (i + 1), nI j0)) else some (.inl (nI i, nI (j + 1))) := by
        unfold g_X10_finds_j67
        rw [show rF u 0 48 = nI r2 from e2, ck_t (inb_nI h2 (by decide)), rA_nI (by omega), e3, nI_1, nI_1]
        by_cases z : j + 1 = D
        · rw [if_pos z, if_pos (by rw [z])]
        · rw [if_neg z, if_neg (fun w => z (nI_inj (by omega) (by omega) w))]
      unfold g_X10_finds_l32
      rw [m_areLike (F := F) h1 h2 (by omega) (by omega) e1 e2, hE, ob_i]
      by_cases z : E i j = true
      · rw [if_pos z, if_neg one_n0, show (101 : Int32) * (nI i + 1) + nI j + 1 = nI (101 * (i + 1) + (j + 1)) by rw [nI_1, show (101 : Int32) * nI (i + 1) = nI (101 * (i + 1)) from pk_mul 101 _, nI_add, nI_1, Nat.add_assoc], ck_t (inb_nI (by omega) (by decide)), rA_nI (by omega), hT _ _ (by omega) (by omega), show (1 : Int32) + nI (lL E C D (i + 1) (j + 1)) = nI (1 + lL E C D (i + 1) (j + 1)) from nI_add 1 _, if_neg (fun w => q ⟨z, nI_inj (by have := hl (i + 1) (j + 1); omega) (by omega) w⟩)]
        exact e67
      · rw [if_neg z, if_pos rfl]
        exact e67
    by_cases q : hit E C D n i j
    · refine ⟨i, j, lp_r (hb1 q), ?_, hi, hjj, hj, q, fun a' b' z1 z2 => absurd z2 z1⟩
      unfold lxl; omega
    · have hb := hb2 q
      obtain ⟨a, b, x1, x2, x3, x4, x5⟩ := hex
      have hne : ¬ (a = i ∧ b = j) := fun z => q (by rw [← z.1, ← z.2]; exact x5)
      by_cases z : j + 1 = D
      · rw [if_pos z] at hb
        have hia : i < a := by unfold lxl at x1; omega
        have hm : (C - i - 1) * D = (C - (i + 1) - 1) * D + D := by
          rw [show C - i - 1 = (C - (i + 1) - 1) + 1 by omega, Nat.succ_mul]
        match f, hf, hG with
        | 0, hf, hG => omega
        | f + 1, hf, hG =>
        obtain ⟨a2, b2, y1, y2, y3, y4, y5, y6, y7⟩ := m_scan (F := F) (x := x) (y := y) h1 h2 e1 e2 hE hC hD e3 hn hT hj0 f (i + 1) j0 (by omega) (by omega) hj0 (Nat.le_refl _) ⟨a, b, by unfold lxl; omega, x2, x3, x4, x5⟩ G (by omega)
        refine ⟨a2, b2, (lp_l (body := fun (s : Int32 × Int32) => g_X10_finds_l32 F x (nI j0) y (nI n) u s.1 s.2) (s := (nI i, nI j)) hb).trans y1, ?_, y3, y4, y5, y6, fun a' b' z1 z2 z3 z4 => ?_⟩
        · unfold lxl at y2 ⊢; omega
        · by_cases z5 : a' = i ∧ b' = j
          · rw [z5.1, z5.2]; exact q
          · refine y7 a' b' ?_ z2 z3 z4
            unfold lxl at z1 ⊢; omega
      · rw [if_neg z] at hb
        match f, hf, hG with
        | 0, hf, hG => omega
        | f + 1, hf, hG =>
        obtain ⟨a2, b2, y1, y2, y3, y4, y5, y6, y7⟩ := m_scan (F := F) (x := x) (y := y) h1 h2 e1 e2 hE hC hD e3 hn hT hj0 f i (j + 1) (by omega) hi (by omega) (by omega) ⟨a, b, by unfold lxl at x1 ⊢; omega, x2, x3, x4, x5⟩ G (by omega)
        refine ⟨a2, b2, (lp_l (body := fun (s : Int32 × Int32) => g_X10_finds_l32 F x (nI j0) y (nI n) u s.1 s.2) (s := (nI i, nI j)) hb).trans y1, ?_, y3, y4, y5, y6, fun a' b' z1 z2 z3 z4 => ?_⟩
        · unfold lxl at y2 ⊢; omega
        · by_cases z5 : a' = i ∧ b' = j
          · rw [z5.1, z5.2]; exact q
          · refine y7 a' b' ?_ z2 z3 z4
            unfold lxl at z1 ⊢; omega
