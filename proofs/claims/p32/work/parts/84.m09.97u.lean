section W_35
-- 97u.pair
/-! align, pair of the reference -/
def xr (r : Nat) : Int32 := if r = 4 then -1 else nI r
theorem m_laysPairs {F K W r1 r2 : Nat} {u : rg_U} (h : coreM u K W) (a1 : act u K r1) (a2 : act u K r2) (hF : 10000 < F) : ∃ w, g_X10_laysPairs F (xr r1) (xr r2) u = some w ∧ w.1 = upd (upd u.1 47 (nI r1)) 48 (nI r2) ∧ (∀ j, j ≠ 35 → w.2.1 j = u.2.1 j) ∧ ∀ i' j', i' ≤ Cr u r1 → j' ≤ Cr u r2 → w.2.1 35 (101 * i' + j') = nI (lL (E35 u r1 r2) (Cr u r1) (Cr u r2) i' j') := by
  have hK := h.1.2.1
  have r15 := act5 hK a1
  have r25 := act5 hK a2
  have h1 := h.2.2.2.2.1 r1 a1
  have h2 := h.2.2.2.2.1 r2 a2
  have hC := h1.2.2.2.2.2.2.2.2.1
  have hD := h2.2.2.2.2.2.2.2.2.1
  have e : ∀ n, nI (n + 1) + (-1) = nI n := fun n => by rw [← nI_1, Int32.add_assoc]; exact Int32.add_zero _
  have key : ∃ w, g_X10_laysPairs_j25 F (nI r2) (sF u 0 47 (nI r1)) = some w ∧ w.1 = upd (upd u.1 47 (nI r1)) 48 (nI r2) ∧ (∀ j, j ≠ 35 → w.2.1 j = u.2.1 j) ∧ ∀ i' j', i' ≤ Cr u r1 → j' ≤ Cr u r2 → w.2.1 35 (101 * i' + j') = nI (lL (E35 u r1 r2) (Cr u r1) (Cr u r2) i' j') := by
    unfold g_X10_laysPairs_j25
    rw [lt1_i]
    have q1 : (sF (sF u 0 47 (nI r1)) 0 48 (nI r2)).1 47 = nI r1 := rfl
    have q2 : (sF (sF u 0 47 (nI r1)) 0 48 (nI r2)).1 48 = nI r2 := rfl
    obtain ⟨w, g1, g2, g3⟩ := m_rowsl (F := F) (C := Cr u r1) (D := Cr u r2) (u := sF (sF u 0 47 (nI r1)) 0 48 (nI r2)) r15 r25 q1 q2 hC hD hF (Cr u r1 + 1) (sF (sF u 0 47 (nI r1)) 0 48 (nI r2)) (Nat.le_refl _) ⟨rfl, fun _ _ => rfl⟩ (fun i' j' b1 b2 => by omega) F (by omega)
    rw [e] at g1
    rw [show rF (sF (sF u 0 47 (nI r1)) 0 48 (nI r2)) 0 47 = nI r1 from rfl, show rF (sF (sF u 0 47 (nI r1)) 0 48 (nI r2)) 0 48 = nI r2 from rfl, ck_t (inb_nI r15 (by decide)), ck_t (inb_nI r25 (by decide)), rA_nI (by omega), rA_nI (by omega), show (sF (sF u 0 47 (nI r1)) 0 48 (nI r2)).2.1 19 r1 = nI (Cr u r1) from h1.2.2.2.2.1, show (sF (sF u 0 47 (nI r1)) 0 48 (nI r2)).2.1 19 r2 = nI (Cr u r2) from h2.2.2.2.2.1, g1, ob_i]
    exact ⟨w, rfl, g2.1, g2.2, g3⟩
  obtain ⟨w, g1, g2⟩ := key
  refine ⟨w, ?_, g2⟩
  have f2 : ∀ s, g_X10_laysPairs_j11 F (xr r2) s u = g_X10_laysPairs_j25 F (nI r2) (sF u 0 47 s) := fun s => by
    unfold g_X10_laysPairs_j11 xr
    rw [lt1_i]
    by_cases z : r2 = 4
    · rw [if_pos z, if_pos rfl, z]; rfl
    · rw [if_neg z, if_neg (nI_m1 (by omega))]
  unfold g_X10_laysPairs
  rw [f2, f2, ← g1]
  unfold xr
  by_cases z : r1 = 4
  · rw [if_pos z, if_pos rfl, z]; rfl
  · rw [if_neg z, if_neg (nI_m1 (by omega))]
theorem pairs_ok {K W r1 r2 : Nat} {u w : rg_U} (h : okM u K W) (h1 : w.1 = upd (upd u.1 47 (nI r1)) 48 (nI r2)) (h2 : ∀ j, j ≠ 35 → w.2.1 j = u.2.1 j) : coreEq u w ∧ okM w K W := by
  have hc : coreEq u w := ⟨fun j hj => h2 j (by omega), fun k hk => by rw [h1, pk_un (by omega), pk_un (by omega)]⟩
  exact ⟨hc, okM_scr h hc (h2 31 (by decide)) (h2 37 (by decide)) (by rw [h1]; rfl) (by rw [h1]; rfl)⟩
theorem m_align {F K W : Nat} {x y : Int32} {u : rg_U} (h : okM u K W) (hF : 10000 < F) : (¬ ((∃ r, act u K r ∧ x = xr r) ∧ ∃ r, act u K r ∧ y = xr r) ∧ g_X10_align F x y u = some (-2, u)) ∨ ∃ r1 r2 w, act u K r1 ∧ x = xr r1 ∧ act u K r2 ∧ y = xr r2 ∧ g_X10_align F x y u = some (nI (lL (E35 u r1 r2) (Cr u r1) (Cr u r2) 0 0), w) ∧ coreEq u w ∧ okM w K W := by
  unfold g_X10_align
  rcases m_there (F := F) (x := x) h.1 with ⟨q1, q2⟩ | ⟨r1, q1, q2, q3⟩
  · rw [q1, ob_i, if_pos rfl]; exact Or.inl ⟨fun z => q2 z.1, rfl⟩
  rw [q1, ob_i, if_neg one_n0]
  rcases m_there (F := F) (x := y) h.1 with ⟨p1, p2⟩ | ⟨r2, p1, p2, p3⟩
  · rw [p1, ob_i, if_pos rfl]; exact Or.inl ⟨fun z => p2 z.2, rfl⟩
  rw [p1, ob_i, if_neg one_n0]
  obtain ⟨w, e1, e2, e3, e4⟩ := m_laysPairs h.1 q2 p2 hF
  have q3' : x = xr r1 := q3
  have p3' : y = xr r2 := p3
  rw [q3', p3', e1, ob_i, ck_t (show inb 0 10201 by decide), show rA w 35 0 = w.2.1 35 (101 * 0 + 0) from rfl, e4 0 0 (Nat.zero_le _) (Nat.zero_le _)]
  obtain ⟨k1, k2⟩ := pairs_ok h e2 e3
  exact Or.inr ⟨r1, r2, w, q2, rfl, p2, rfl, rfl, k1, k2⟩
theorem lL_ex {E : Nat → Nat → Bool} {C D : Nat} : ∀ (f i j : Nat), (C - i) + (D - j) ≤ f → 0 < lL E C D i j → ∃ a b, i ≤ a ∧ a < C ∧ j ≤ b ∧ b < D ∧ E a b = true ∧ 1 + lL E C D (a + 1) (b + 1) = lL E C D i j
  | f, i, j, hf, h0 => by
    have hi : i < C := by
      rcases Nat.lt_or_ge i C with z | z
      · exact z
      · rw [lL_C z] at h0; omega
    have hj : j < D := by
      rcases Nat.lt_or_ge j D with z | z
      · exact z
      · rw [lL_D z] at h0; omega
    match f, hf with
    | 0, hf => omega
    | f + 1, hf =>
    have hs := lL_s (E := E) hi hj
    by_cases c1 : lL E C D i j = lL E C D (i + 1) j
    · obtain ⟨a, b, z1, z2, z3, z4, z5, z6⟩ := lL_ex (E := E) (C := C) (D := D) f (i + 1) j (by omega) (by omega)
      exact ⟨a, b, by omega, z2, z3, z4, z5, by omega⟩
    · by_cases c2 : lL E C D i j = lL E C D i (j + 1)
      · obtain ⟨a, b, z1, z2, z3, z4, z5, z6⟩ := lL_ex (E := E) (C := C) (D := D) f i (j + 1) (by omega) (by omega)
        exact ⟨a, b, z1, z2, by omega, z4, z5, by omega⟩
      · by_cases c3 : E i j = true
        · rw [if_pos c3] at hs
          exact ⟨i, j, Nat.le_refl _, hi, Nat.le_refl _, hj, c3, by omega⟩
        · rw [if_neg c3] at hs
          omega
def hit (E : Nat → Nat → Bool) (C D n a b : Nat) : Prop := E a b = true ∧ 1 + lL E C D (a + 1) (b + 1) = n
def lxl (i j a b : Nat) : Prop := i < a ∨ (i = a ∧ j < b)
theorem m_scan {F r1 r2 C D n j0 : Nat} {x y : Int32} {u : rg_U} {E : Nat → Nat → Bool} (h1 : r1 < 5) (h2 : r2 < 5) (e1 : u.1 47 = nI r1) (e2 : u.1 48 = nI r2) (hE : E35 u r1 r2 = E) (hC : C ≤ 100) (hD : D ≤ 100) (e3 : u.2.1 19 r2 = nI D) (hn : n ≤ 100) (hT : ∀ i' j', i' ≤ C → j' ≤ D → u.2.1 35 (101 * i' + j') = nI (lL E C D i' j')) (hj0 : j0 < D) : ∀ (f i j : Nat), (C - i - 1) * D + (D - j) ≤ f → i < C → j < D → j0 ≤ j → (∃ a b, ¬ lxl a b i j ∧ a < C ∧ j0 ≤ b ∧ b < D ∧ hit E C D n a b) → ∀ G, f < G → ∃ a b, lp (fun (s : Int32 × Int32) => g_X10_finds_l32 F x (nI j0) y (nI n) u s.1 s.2) G (nI i, nI j) = some (nI a, nI b) ∧ ¬ lxl a b i j ∧ a < C ∧ j0 ≤ b ∧ b < D ∧ hit E C D n a b ∧ ∀ a' b', ¬ lxl a' b' i j → lxl a' b' a b → j0 ≤ b' → b' < D → ¬ hit E C D n a' b'
  | f, i, j, hf, hi, hj, hjj, hex, 0, hG => by omega
  | f, i, j, hf, hi, hj, hjj, hex, G + 1, hG => by
    have hl : ∀ a b, lL E C D a b ≤ 100 := fun a b => Nat.le_trans lL_le hC
    have hb1 : hit E C D n i j → g_X10_finds_l32 F x (nI j0) y (nI n) u (nI i) (nI j) = some (.inr (nI i, nI j)) := fun q => by
      unfold g_X10_finds_l32
      rw [m_areLike (F := F) h1 h2 (by omega) (by omega) e1 e2, hE, ob_i, if_pos q.1, if_neg one_n0, show (101 : Int32) * (nI i + 1) + nI j + 1 = nI (101 * (i + 1) + (j + 1)) by rw [nI_1, show (101 : Int32) * nI (i + 1) = nI (101 * (i + 1)) from pk_mul 101 _, nI_add, nI_1, Nat.add_assoc], ck_t (inb_nI (by omega) (by decide)), rA_nI (by omega), hT _ _ (by omega) (by omega), show (1 : Int32) + nI (lL E C D (i + 1) (j + 1)) = nI (1 + lL E C D (i + 1) (j + 1)) from nI_add 1 _, if_pos (by rw [q.2])]
    have hb2 : ¬ hit E C D n i j → g_X10_finds_l32 F x (nI j0) y (nI n) u (nI i) (nI j) = if j + 1 = D then some (.inl (nI (i + 1), nI j0)) else some (.inl (nI i, nI (j + 1))) := fun q => by
      have e67 : g_X10_finds_j67 F x (nI j0) y (nI n) (nI i) (nI j) u = if j + 1 = D then some (.inl (nI (i + 1), nI j0)) else some (.inl (nI i, nI (j + 1))) := by
        unfold g_X10_finds_j67
        rw [show rF u 0 48 = nI r2 from e2, ck_t (inb_nI h2 (by decide)), rA_nI (by omega), e3, nI_1, nI_1]
        by_cases z : j + 1 = D
        · rw [if_pos z, if_pos (by rw [z])]
        · rw [if_neg z, if_neg (fun w => z (nI_inj (by omega) (by omega) w))]
      unfold g_X10_finds_l32
      rw [m_areLike (F := F) h1 h2 (by omega) (by omega) e1 e2, hE, ob_i]
      by_cases z : E i j = true
      · rw [if_pos z, if_neg one_n0, show (101 : Int32) * (nI i + 1) + nI j + 1 = nI (101 * (i + 1) + (j + 1)) by rw [nI_1, show (101 : Int32) * nI (i + 1) = nI (101 * (i + 1)) from pk_mul 101 _, nI_add, nI_1, Nat.add_assoc], ck_t (inb_nI (by omega) (by decide)), rA_nI (by omega), hT _ _ (by omega) (by omega), show (1 : Int32) + nI (lL E C D (i + 1) (j + 1)) = nI (1 + lL E C D (i + 1) (j + 1)) from nI_add 1 _, if_neg (fun w => q ⟨z, nI_inj (by have := hl (i + 1) (j + 1); omega) (by omega) w⟩)]
        exact e67
      · rw [if_neg z, if_pos rfl]
        exact e67
    by_cases q : hit E C D n i j
    · refine ⟨i, j, lp_r (hb1 q), ?_, hi, hjj, hj, q, fun a' b' z1 z2 => absurd z2 z1⟩
      unfold lxl; omega
    · have hb := hb2 q
      obtain ⟨a, b, x1, x2, x3, x4, x5⟩ := hex
      have hne : ¬ (a = i ∧ b = j) := fun z => q (by rw [← z.1, ← z.2]; exact x5)
      by_cases z : j + 1 = D
      · rw [if_pos z] at hb
        have hia : i < a := by unfold lxl at x1; omega
        have hm : (C - i - 1) * D = (C - (i + 1) - 1) * D + D := by
          rw [show C - i - 1 = (C - (i + 1) - 1) + 1 by omega, Nat.succ_mul]
        match f, hf, hG with
        | 0, hf, hG => omega
        | f + 1, hf, hG =>
        obtain ⟨a2, b2, y1, y2, y3, y4, y5, y6, y7⟩ := m_scan (F := F) (x := x) (y := y) h1 h2 e1 e2 hE hC hD e3 hn hT hj0 f (i + 1) j0 (by omega) (by omega) hj0 (Nat.le_refl _) ⟨a, b, by unfold lxl; omega, x2, x3, x4, x5⟩ G (by omega)
        refine ⟨a2, b2, (lp_l (body := fun (s : Int32 × Int32) => g_X10_finds_l32 F x (nI j0) y (nI n) u s.1 s.2) (s := (nI i, nI j)) hb).trans y1, ?_, y3, y4, y5, y6, fun a' b' z1 z2 z3 z4 => ?_⟩
        · unfold lxl at y2 ⊢; omega
        · by_cases z5 : a' = i ∧ b' = j
          · rw [z5.1, z5.2]; exact q
          · refine y7 a' b' ?_ z2 z3 z4
            unfold lxl at z1 ⊢; omega
      · rw [if_neg z] at hb
        match f, hf, hG with
        | 0, hf, hG => omega
        | f + 1, hf, hG =>
        obtain ⟨a2, b2, y1, y2, y3, y4, y5, y6, y7⟩ := m_scan (F := F) (x := x) (y := y) h1 h2 e1 e2 hE hC hD e3 hn hT hj0 f i (j + 1) (by omega) hi (by omega) (by omega) ⟨a, b, by unfold lxl at x1 ⊢; omega, x2, x3, x4, x5⟩ G (by omega)
        refine ⟨a2, b2, (lp_l (body := fun (s : Int32 × Int32) => g_X10_finds_l32 F x (nI j0) y (nI n) u s.1 s.2) (s := (nI i, nI j)) hb).trans y1, ?_, y3, y4, y5, y6, fun a' b' z1 z2 z3 z4 => ?_⟩
        · unfold lxl at y2 ⊢; omega
        · by_cases z5 : a' = i ∧ b' = j
          · rw [z5.1, z5.2]; exact q
          · refine y7 a' b' ?_ z2 z3 z4
            unfold lxl at z1 ⊢; omega
end W_35
section W_36
-- 97v.pair
/-! pair of the reference -/
def fpR (E : Nat → Nat → Bool) (C D i j a b : Nat) : Prop := i ≤ a ∧ a < C ∧ j ≤ b ∧ b < D ∧ hit E C D (lL E C D i j) a b ∧ ∀ a' b', i ≤ a' → j ≤ b' → b' < D → lxl a' b' a b → ¬ hit E C D (lL E C D i j) a' b'
def prR (E : Nat → Nat → Bool) (C D : Nat) : Nat → Nat → Nat → Prop
  | 0, a, b => fpR E C D 0 0 a b
  | k + 1, a, b => ∃ a' b', prR E C D k a' b' ∧ fpR E C D (a' + 1) (b' + 1) a b
theorem prR_lt {E : Nat → Nat → Bool} {C D : Nat} : ∀ {k a b : Nat}, prR E C D k a b → a < C ∧ b < D
  | 0, a, b, h => ⟨h.2.1, h.2.2.2.1⟩
  | k + 1, a, b, h => by
    obtain ⟨a', b', -, h⟩ := h
    exact ⟨h.2.1, h.2.2.2.1⟩
def sm49 (u v : rg_U) : Prop := v.2.1 = u.2.1 ∧ ∀ k, k ≠ 49 → k ≠ 50 → v.1 k = u.1 k
theorem m_findsl {F r1 r2 C D x : Nat} {u : rg_U} {E : Nat → Nat → Bool} (h1 : r1 < 5) (h2 : r2 < 5) (e1 : u.1 47 = nI r1) (e2 : u.1 48 = nI r2) (hE : E35 u r1 r2 = E) (hC : C ≤ 100) (hD : D ≤ 100) (e3 : u.2.1 19 r2 = nI D) (hT : ∀ i' j', i' ≤ C → j' ≤ D → u.2.1 35 (101 * i' + j') = nI (lL E C D i' j')) (hx : x < lL E C D 0 0) (hF : 10000 < F) : ∀ (f c i j : Nat) (v : rg_U), f + c = x + 1 → sm49 u v → lL E C D i j + c = lL E C D 0 0 → ((c = 0 ∧ i = 0 ∧ j = 0) ∨ ∃ a b c', c = c' + 1 ∧ prR E C D c' a b ∧ i = a + 1 ∧ j = b + 1 ∧ v.1 49 = nI a ∧ v.1 50 = nI b) → ∀ G, f < G → ∃ a b w, lp (fun (s : Int32 × Int32 × Int32 × rg_U) => g_X10_finds_l7 F (nI x) s.1 s.2.1 s.2.2.1 s.2.2.2) G (nI i, nI j, nI c, v) = some w ∧ sm49 u w ∧ prR E C D x a b ∧ w.1 49 = nI a ∧ w.1 50 = nI b
  | f, c, i, j, v, hf, hv, hL, hp, 0, hG => by omega
  | 0, c, i, j, v, hf, hv, hL, hp, G + 1, hG => by
    have hN := lL_le (E := E) (C := C) (D := D) (i := 0) (j := 0)
    rcases hp with z | ⟨a, b, c', z1, z2, z3, z4, z5, z6⟩
    · omega
    · refine ⟨a, b, v, lp_r ?_, hv, by rw [show x = c' by omega]; exact z2, z5, z6⟩
      show g_X10_finds_l7 F (nI x) (nI i) (nI j) (nI c) v = _
      unfold g_X10_finds_l7
      rw [if_pos (nI_lt (by omega) (by omega))]
  | f + 1, c, i, j, v, hf, hv, hL, hp, G + 1, hG => by
    have hN := lL_le (E := E) (C := C) (D := D) (i := 0) (j := 0)
    have hi : i < C := by
      rcases Nat.lt_or_ge i C with z | z
      · exact z
      · rw [lL_C z] at hL; omega
    have hj : j < D := by
      rcases Nat.lt_or_ge j D with z | z
      · exact z
      · rw [lL_D z] at hL; omega
    have hEv : E35 v r1 r2 = E := by rw [← hE]; unfold E35; rw [hv.1]
    have hl : lL E C D i j ≤ 100 := Nat.le_trans lL_le hC
    have hTv : ∀ i' j', i' ≤ C → j' ≤ D → v.2.1 35 (101 * i' + j') = nI (lL E C D i' j') := by rw [hv.1]; exact hT
    obtain ⟨a, b, y1, y2, y3, y4, y5, y6⟩ := lL_ex (E := E) (C := C) (D := D) _ i j (Nat.le_refl _) (by omega)
    have hm : (C - i - 1) * D ≤ 99 * 100 := Nat.mul_le_mul (by omega) hD
    obtain ⟨a2, b2, w1, w2, w3, w4, w5, w6, w7⟩ := m_scan (F := F) (x := nI x) (y := nI c) (u := v) (n := lL E C D i j) (j0 := j) h1 h2 (by rw [hv.2 47 (by decide) (by decide)]; exact e1) (by rw [hv.2 48 (by decide) (by decide)]; exact e2) hEv hC hD (by rw [hv.1]; exact e3) hl hTv hj _ i j (Nat.le_refl _) hi hj (Nat.le_refl _) ⟨a, b, by unfold lxl; omega, y2, y3, y4, y5, y6⟩ F (by omega)
    have hfp : fpR E C D i j a2 b2 := ⟨by unfold lxl at w2; omega, w3, w4, w5, w6, fun a' b' z1 z2 z3 z4 => w7 a' b' (by unfold lxl; omega) z4 z2 z3⟩
    have hb : g_X10_finds_l7 F (nI x) (nI i) (nI j) (nI c) v = some (.inl (nI (a2 + 1), nI (b2 + 1), nI (c + 1), sF (sF v 0 49 (nI a2)) 0 50 (nI b2))) := by
      unfold g_X10_finds_l7
      rw [if_neg (nI_nlt (by omega) (by omega)), show (101 : Int32) * nI i + nI j = nI (101 * i + j) by rw [show (101 : Int32) * nI i = nI (101 * i) from pk_mul 101 _, nI_add], ck_t (inb_nI (by omega) (by decide)), rA_nI (by omega), hTv i j (by omega) (by omega), w1, ob_i, lt1_i, lt1_i, nI_1, nI_1, nI_1]
    rw [lp_l (body := fun (s : Int32 × Int32 × Int32 × rg_U) => g_X10_finds_l7 F (nI x) s.1 s.2.1 s.2.2.1 s.2.2.2) (s := (nI i, nI j, nI c, v)) hb]
    refine m_findsl h1 h2 e1 e2 hE hC hD e3 hT hx hF f (c + 1) (a2 + 1) (b2 + 1) (sF (sF v 0 49 (nI a2)) 0 50 (nI b2)) (by omega) ⟨hv.1, fun k k1 k2 => ?_⟩ ?_ (Or.inr ⟨a2, b2, c, rfl, ?_, rfl, rfl, rfl, rfl⟩) G (by omega)
    · show upd (upd v.1 49 (nI a2)) 50 (nI b2) k = _
      rw [pk_un k2, pk_un k1, hv.2 k k1 k2]
    · have := w6.2
      omega
    · rcases hp with z | ⟨a', b', c', z1, z2, z3, z4, z5, z6⟩
      · obtain ⟨z1, z2, z3⟩ := z
        subst z1; subst z2; subst z3
        exact hfp
      · subst z1; subst z3; subst z4
        exact ⟨a', b', z2, hfp⟩
/-- a replay leaves the other fields -/
theorem rep_fld {F K W r t : Nat} {u w : rg_U} (h : okM u K W) (hr : act u K r) (ht : t ≤ Tr u r) (hF : 10000 < F) (hw : g_X10_replays F (nI r) (nI t) u = some w) : ∀ k, 43 ≤ k → w.1 k = u.1 k := by
  obtain ⟨hc, hs⟩ := h
  have hr5 := act5 hc.1.2.1 hr
  have hro := hc.2.2.2.2.1 r hr
  have hT3 := hro.2.2.2.2.2.2.1.1.2.2.2.1
  have fin : ∀ v x, v = cS u r x → g_X10_replays_j23 F (nI r) (nI t) v = some w → ∀ k, 43 ≤ k → w.1 k = u.1 k := by
    intro v x hv hw k hk
    have hcv : coreM v K W := by rw [hv]; exact core_cS hc
    have hsv : simM v K := by rw [hv]; exact simM_cS hs
    have hrv : act v K r := by rw [hv]; exact hr
    have eT : Tr v r = Tr u r := by rw [hv]; rfl
    obtain ⟨a, b, c, e⟩ := lay_all hcv hsv hrv (by rw [eT]; exact ht) hF
    unfold g_X10_replays_j23 at hw
    rw [e, ob_i] at hw
    have hw := Option.some.inj hw
    rw [← hw, sX_n (by omega), hv]
    show upd u.1 35 _ k = _
    rw [pk_un (by omega)]
  unfold g_X10_replays at hw
  rw [ck_t (inb_nI hr5 (by decide)), rA_nI (by omega), hro.2.1] at hw
  by_cases q : t = Tr u r
  · rw [if_pos (by rw [q])] at hw
    exact fin u 0 cS_0.symm hw
  · rw [if_neg (fun z => q (nI_inj (by omega) (by omega) z))] at hw
    have h0 : ¬ Hm u r 0 = 0 := by rw [hro.2.2.2.2.2.2.2.1.1]; decide
    have hle : hk (Hm u r) (t / Ur u r) * Ur u r ≤ t := Nat.le_trans (Nat.mul_le_mul_right _ (hk_le _ _)) (Nat.div_mul_le_self t (Ur u r))
    rw [m_heldBy hr5 h0 hro.2.2.1 hro.2.2.2.2.2.1.1 hro.2.2.2.2.2.1.2.1 (by omega) hF, ob_i, nI_sub hle, m_counts hr5, ob_i] at hw
    exact fin _ _ rfl hw
def prB (m m' : Row) (a : Nat) : Nat → Int32
  | 0 => 0
  | k + 1 => prB m m' a k ||| (if m (a + k) = m' (a + k) ∧ m (40 + (a + k)) = m' (40 + (a + k)) then 0 else dx_shl 1 (nI k))
theorem m_prl {F a n : Nat} {u : rg_U} (han : a + n ≤ 40) (hF : 10000 < F) : g_X10_pair_j200 F 0 (nI a) (nI n) u = some (prB (u.2.1 36) (u.2.1 31) a n, u) := by
  have h := lp_up (body := fun (s : Int32 × Int32) => g_X10_pair_l205 F (nI a) (nI n) u s.1 s.2) (fun k => (prB (u.2.1 36) (u.2.1 31) a k, nI k)) n (prB (u.2.1 36) (u.2.1 31) a n) (fun k hk => by
    show g_X10_pair_l205 F (nI a) (nI n) u (prB (u.2.1 36) (u.2.1 31) a k) (nI k) = _
    unfold g_X10_pair_l205 g_X10_pair_j270 g_X10_pair_j278
    rw [if_neg (nI_ge hk (by omega)), c0, c40, nI_add, nI_add, ck_t (inb_nI (by omega) (by decide)), ck_t (inb_nI (by omega) (by decide)), ck_t (inb_nI (by omega) (by decide)), ck_t (inb_nI (by omega) (by decide)), rA_nI (by omega), rA_nI (by omega), rA_nI (by omega), rA_nI (by omega), nI_1, Nat.add_assoc 40 a k]
    show _ = some (Sum.inl (prB (u.2.1 36) (u.2.1 31) a k ||| (if u.2.1 36 (a + k) = u.2.1 31 (a + k) ∧ u.2.1 36 (40 + (a + k)) = u.2.1 31 (40 + (a + k)) then 0 else dx_shl 1 (nI k)), nI (k + 1)))
    by_cases z : u.2.1 36 (a + k) = u.2.1 31 (a + k)
    · rw [if_pos z]
      by_cases y : u.2.1 36 (40 + (a + k)) = u.2.1 31 (40 + (a + k))
      · rw [if_pos y, if_pos ⟨z, y⟩]
      · rw [if_neg y, if_neg (fun q => y q.2)]
    · rw [if_neg z, if_neg (fun q => z q.1)]) (by
    show g_X10_pair_l205 F (nI a) (nI n) u _ (nI n) = _
    unfold g_X10_pair_l205
    rw [if_pos (nI_le (Nat.le_refl _) (by omega))]) F 0 (Nat.zero_le _) (by omega)
  unfold g_X10_pair_j200
  rw [show lp (fun (s : Int32 × Int32) => g_X10_pair_l205 F (nI a) (nI n) u s.1 s.2) F ((0 : Int32), (0 : Int32)) = _ from h, ob_i]
theorem m_prc {F : Nat} {a : Int32} {u : rg_U} (hz : ∀ i, 134 ≤ i → u.2.1 31 i = 0) (hF : 10000 < F) : ∃ v, lp (fun (s : Int32 × rg_U) => g_X10_pair_l117 F a s.1 s.2) F ((0 : Int32), u) = some v ∧ v.1 = u.1 ∧ ∀ j i, v.2.1 j i = if j = 36 ∧ i < 134 then u.2.1 31 i else u.2.1 j i := by
  refine lp_ex (body := fun (s : Int32 × rg_U) => g_X10_pair_l117 F a s.1 s.2) (P := fun k s => ∃ m, k + m = 134 ∧ s.1 = nI m ∧ s.2.1 = u.1 ∧ ∀ j i, s.2.2.1 j i = if j = 36 ∧ i < m then u.2.1 31 i else u.2.1 j i) (R := fun v => v.1 = u.1 ∧ ∀ j i, v.2.1 j i = if j = 36 ∧ i < 134 then u.2.1 31 i else u.2.1 j i) ?_ F 134 ((0 : Int32), u) (by omega) ⟨0, rfl, rfl, rfl, fun j i => by rw [if_neg (by omega)]⟩
  rintro k ⟨s1, s2⟩ ⟨m, hm, e1, e2, hv⟩
  dsimp only at e1 e2 hv
  subst e1
  unfold g_X10_pair_l117
  dsimp only
  by_cases q : m = 134
  · right
    subst q
    exact ⟨s2, if_pos (by decide), e2, hv⟩
  · left
    rw [if_neg (show ¬ (134 : Int32) ≤ nI m from nI_ge (a := m) (b := 134) (by omega) (by decide)), ck_t (inb_nI (by omega) (by decide)), ck_t (inb_nI (by omega) (by decide)), lt1_i, sA_nI (by omega), rA_nI (by omega), nI_1]
    refine ⟨_, k - 1, rfl, by omega, m + 1, by omega, rfl, e2, fun j i => ?_⟩
    rw [R_at, hv j i, hv 31 m, if_neg (show ¬ (31 = 36 ∧ m < m) by omega)]
    by_cases z : j = 36 ∧ i = m
    · rw [if_pos z, if_pos (show j = 36 ∧ i < m + 1 by omega), z.2]
    · rw [if_neg z]
      by_cases y : j = 36 ∧ i < m
      · rw [if_pos y, if_pos (show j = 36 ∧ i < m + 1 by omega)]
      · rw [if_neg y, if_neg (show ¬ (j = 36 ∧ i < m + 1) by omega)]
end W_36
section W_37
-- 97w.pair
/-! pair of the reference, whole -/
def tC (u : rg_U) (r a : Nat) : Nat := tn (u.2.1 16 (100 * r + a))
theorem tC_ok {u : rg_U} {r a : Nat} (h : runOK u r) (ha : a < Cr u r) : u.2.1 16 (100 * r + a) = nI (tC u r a) ∧ tC u r a < Tr u r := by
  obtain ⟨hC, ct, h1, -⟩ := h.2.2.2.2.2.2.2.2
  have hT3 := h.2.2.2.2.2.2.1.1.2.2.2.1
  obtain ⟨e1, e2⟩ := h1 a ha
  have e1 : u.2.1 16 (100 * r + a) = nI (ct a) := e1
  unfold tC
  rw [e1, tnn (by omega)]
  exact ⟨rfl, e2⟩
theorem eq_s {u v : rg_U} {r : Nat} (h : ∀ j, j ≤ 30 → j ≠ 25 → v.2.1 j = u.2.1 j) : (∀ t, rpm v r t = rpm u r t) ∧ (∀ t, costM v r t = costM u r t) ∧ Tr v r = Tr u r ∧ tC v r = tC u r := by
  refine ⟨fun t => ?_, fun t => ?_, ?_, ?_⟩
  · unfold rpm Pm Lm nr
    rw [h 6 (by decide) (by decide), h 7 (by decide) (by decide), h 8 (by decide) (by decide), h 9 (by decide) (by decide), h 10 (by decide) (by decide), h 11 (by decide) (by decide), h 12 (by decide) (by decide), h 13 (by decide) (by decide), h 14 (by decide) (by decide), h 15 (by decide) (by decide)]
  · unfold costM Hm Ur Tr
    rw [h 20 (by decide) (by decide), h 21 (by decide) (by decide), h 23 (by decide) (by decide)]
  · unfold Tr
    rw [h 21 (by decide) (by decide)]
  · funext a
    unfold tC
    rw [h 16 (by decide) (by decide)]
def prW (u : rg_U) (K : Nat) (x y z q : Int32) : Prop := ∃ r1 r2 k, act u K r1 ∧ act u K r2 ∧ x = xr r1 ∧ y = xr r2 ∧ z = nI k ∧ k < lL (E35 u r1 r2) (Cr u r1) (Cr u r2) 0 0 ∧ ¬ g_X10_isIn q 0 3 = 0
def prA (u : rg_U) (r1 r2 a b : Nat) (q : Int32) : Int32 := if 2 ≤ q then (if q = 2 then prB (rpm u r1 (tC u r1 a)).1 (rpm u r2 (tC u r2 b)).1 0 8 else prB (rpm u r1 (tC u r1 a)).1 (rpm u r2 (tC u r2 b)).1 8 32) else if q = 0 then nI a else nI b
theorem xr_inj {r s : Nat} (hr : r < 5) (hs : s < 5) (h : xr r = xr s) : r = s := by
  unfold xr at h
  by_cases q : r = 4
  · by_cases p : s = 4
    · omega
    · rw [if_pos q, if_neg p] at h
      exact absurd h.symm (nI_m1 (by omega))
  · by_cases p : s = 4
    · rw [if_neg q, if_pos p] at h
      exact absurd h (nI_m1 (by omega))
    · rw [if_neg q, if_neg p] at h
      exact nI_inj (by omega) (by omega) h
theorem m_pair {F K W : Nat} {x y z q : Int32} {u : rg_U} (h : okM u K W) (hF : 10000 < F) : (∃ w, g_X10_pair F x y z q u = some (-1000001, w) ∧ okM w K W ∧ coreEq (sF u 0 35 0) w ∧ ¬ prW u K x y z q) ∨ ∃ r1 r2 k a b w, act u K r1 ∧ act u K r2 ∧ x = xr r1 ∧ y = xr r2 ∧ z = nI k ∧ k < lL (E35 u r1 r2) (Cr u r1) (Cr u r2) 0 0 ∧ ¬ g_X10_isIn q 0 3 = 0 ∧ prR (E35 u r1 r2) (Cr u r1) (Cr u r2) k a b ∧ g_X10_pair F x y z q u = some (prA u r1 r2 a b q, w) ∧ okM w K W ∧ (¬ 2 ≤ q → coreEq (sF u 0 35 0) w) ∧ (2 ≤ q → coreEq (cS (cS (sF u 0 35 0) r1 (nI (costM u r1 (tC u r1 a)))) r2 (nI (costM u r2 (tC u r2 b)))) w) := by
  have h0 : okM (sF u 0 35 0) K W := okM_34 (by omega) h
  have hK := h.1.1.2.1
  unfold g_X10_pair
  rw [lt1_i]
  rcases m_there (F := F) (x := x) h0.1 with ⟨q1, q2⟩ | ⟨r1, q1, q2, q3⟩
  · rw [q1, ob_i, if_pos rfl]
    exact Or.inl ⟨_, rfl, h0, coreEq_r, fun ⟨r1, _, _, w1, _, w3, _⟩ => q2 ⟨r1, w1, w3⟩⟩
  rw [q1, ob_i, if_neg one_n0]
  rcases m_there (F := F) (x := y) h0.1 with ⟨p1, p2⟩ | ⟨r2, p1, p2, p3⟩
  · rw [p1, ob_i, if_pos rfl]
    exact Or.inl ⟨_, rfl, h0, coreEq_r, fun ⟨_, r2, _, _, w2, _, w4, _⟩ => p2 ⟨r2, w2, w4⟩⟩
  rw [p1, ob_i, if_neg one_n0]
  by_cases qq : g_X10_isIn q 0 3 = 0
  · rw [if_pos qq]
    exact Or.inl ⟨_, rfl, h0, coreEq_r, fun ⟨_, _, _, _, _, _, _, _, _, w⟩ => w qq⟩
  rw [if_neg qq]
  have q3' : x = xr r1 := q3
  have p3' : y = xr r2 := p3
  obtain ⟨w, e1, e2, e3, e4⟩ := m_laysPairs h0.1 q2 p2 hF
  obtain ⟨k1, k2⟩ := pairs_ok h0 e2 e3
  have hro1 := h.1.2.2.2.2.1 r1 q2
  have hro2 := h.1.2.2.2.2.1 r2 p2
  have hC := hro1.2.2.2.2.2.2.2.2.1
  have hD := hro2.2.2.2.2.2.2.2.2.1
  have r15 := act5 hK q2
  have r25 := act5 hK p2
  have hN : lL (E35 u r1 r2) (Cr u r1) (Cr u r2) 0 0 ≤ 100 := Nat.le_trans lL_le hC
  rw [q3', p3', e1, ob_i, ck_t (show inb 0 10201 by decide), show rA w 35 0 = w.2.1 35 (101 * 0 + 0) from rfl, e4 0 0 (Nat.zero_le _) (Nat.zero_le _), show lL (E35 (sF u 0 35 0) r1 r2) (Cr (sF u 0 35 0) r1) (Cr (sF u 0 35 0) r2) 0 0 = lL (E35 u r1 r2) (Cr u r1) (Cr u r2) 0 0 from rfl]
  by_cases qz : g_X10_isIn z 0 (nI (lL (E35 u r1 r2) (Cr u r1) (Cr u r2) 0 0) - 1) = 0
  · rw [if_pos qz]
    refine Or.inl ⟨w, rfl, k2, k1, fun ⟨s1, s2, k, w1, w2, w3, w4, w5, w6, _⟩ => ?_⟩
    have t1 := xr_inj r15 (act5 hK w1) w3
    have t2 := xr_inj r25 (act5 hK w2) w4
    subst t1; subst t2
    rw [w5, show nI (lL (E35 u r1 r2) (Cr u r1) (Cr u r2) 0 0) - 1 = nI (lL (E35 u r1 r2) (Cr u r1) (Cr u r2) 0 0 - 1) from nI_sub (b := 1) (by omega)] at qz
    exact in_nI (a := 0) (by omega) (by omega) (by omega) qz
  rw [if_neg qz]
  obtain ⟨k, hk, rfl⟩ := in_bel qz (by omega)
  have w47 : w.1 47 = nI r1 := by rw [e2]; rfl
  have w48 : w.1 48 = nI r2 := by rw [e2]; rfl
  have wE : E35 w r1 r2 = E35 u r1 r2 := by
    unfold E35
    rw [e3 17 (by decide), e3 18 (by decide)]
    rfl
  obtain ⟨a, b, v, f1, f2, f3, f4, f5⟩ := m_findsl (F := F) (x := k) (u := w) r15 r25 w47 w48 wE hC hD (by rw [e3 19 (by decide)]; exact hro2.2.2.2.2.1) e4 hk hF (k + 1) 0 0 0 w (by omega) ⟨rfl, fun _ _ _ => rfl⟩ (by omega) (Or.inl ⟨rfl, rfl, rfl⟩) F (by omega)
  obtain ⟨ha, hb⟩ := prR_lt f3
  have hfin : g_X10_finds F (nI k) w = some v := by
    unfold g_X10_finds
    rw [show lp (fun (s : Int32 × Int32 × Int32 × rg_U) => g_X10_finds_l7 F (nI k) s.1 s.2.1 s.2.2.1 s.2.2.2) F ((0 : Int32), (0 : Int32), (0 : Int32), w) = some v from f1, ob_i]
  have hwv : coreEq w v := ⟨fun j _ => by rw [f2.1], fun j hj => f2.2 j (by omega) (by omega)⟩
  have hv0 : coreEq (sF u 0 35 0) v := coreEq_t k1 hwv
  have hokv : okM v K W := okM_scr k2 hwv (by rw [f2.1]) (by rw [f2.1]) (f2.2 41 (by decide) (by decide)) (f2.2 42 (by decide) (by decide))
  rw [hfin, ob_i]
  refine Or.inr ⟨r1, r2, k, a, b, ?_⟩
  have v47 : rF v 0 47 = nI r1 := (f2.2 47 (by decide) (by decide)).trans w47
  have v48 : rF v 0 48 = nI r2 := (f2.2 48 (by decide) (by decide)).trans w48
  have v49 : rF v 0 49 = nI a := f4
  have v50 : rF v 0 50 = nI b := f5
  obtain ⟨ta, tb⟩ := tC_ok hro1 ha
  obtain ⟨sa, sb⟩ := tC_ok hro2 hb
  unfold prA
  by_cases qt : 2 ≤ q
  · have m100 : ∀ r a, (100 : Int32) * nI r + nI a = nI (100 * r + a) := fun r a => by rw [show (100 : Int32) * nI r = nI (100 * r) from pk_mul 100 _, nI_add]
    have hv0' : coreEq (cS (sF u 0 35 0) r1 (nI 0)) v := coreEq_t rep_0 hv0
    obtain ⟨w1, g1, g2, g3, g4⟩ := rep_more (u := sF u 0 35 0) (x := 0) (t := tC u r1 a) hv0' hokv q2 (show tC u r1 a ≤ Tr u r1 by omega) hF
    rw [Nat.zero_add] at g2
    have gf := rep_fld hokv (act_v hv0' q2) (by rw [(eq_c hv0').2.2.1]; exact Nat.le_of_lt tb) hF g1
    obtain ⟨c, d1, d2, d3⟩ := m_prc (F := F) (a := q) (u := w1) g3.2.2.2.2.1 hF
    have hcc : coreEq w1 c := ⟨fun j hj => by funext i; rw [d3, if_neg (by omega)], fun j _ => by rw [d2]⟩
    have hokc : okM c K W := okM_scr g3 hcc (by funext i; rw [d3, if_neg (by omega)]) (by funext i; rw [d3, if_neg (by omega)]) (by rw [d2]) (by rw [d2])
    have hc1 := coreEq_t g2 hcc
    have hc1' : coreEq (cS (cS (sF u 0 35 0) r1 (nI (costM (sF u 0 35 0) r1 (tC u r1 a)))) r2 (nI 0)) c := coreEq_t rep_0 hc1
    have hA1 : ∀ j, j ≤ 30 → j ≠ 25 → (cS (sF u 0 35 0) r1 (nI (costM (sF u 0 35 0) r1 (tC u r1 a)))).2.1 j = u.2.1 j := fun j _ hj => cS_n hj
    obtain ⟨b1, b2, b3, b4⟩ := eq_s (r := r2) hA1
    obtain ⟨w2, n1, n2, n3, n4⟩ := rep_more (x := 0) (t := tC u r2 b) hc1' hokc (show act (cS (sF u 0 35 0) r1 (nI (costM (sF u 0 35 0) r1 (tC u r1 a)))) K r2 from (by unfold act; rw [hA1 5 (by decide) (by decide)]; exact p2)) (by rw [b3]; exact Nat.le_of_lt sb) hF
    rw [Nat.zero_add, b2] at n2
    rw [b1] at n4
    have gr := rep_arr hokc (act_v hc1' (show act (cS (sF u 0 35 0) r1 (nI (costM (sF u 0 35 0) r1 (tC u r1 a)))) K r2 from (by unfold act; rw [hA1 5 (by decide) (by decide)]; exact p2))) (by rw [(eq_c hc1').2.2.1, b3]; exact Nat.le_of_lt sb) hF n1
    have n36 : ∀ i, i < 134 → w2.2.1 36 i = (rpm u r1 (tC u r1 a)).1 i := fun i hi => by
      rw [gr 36 (by decide) (by decide), d3, if_pos ⟨rfl, hi⟩, g4]
      rfl
    have n36' : ∀ i0 n, i0 + n ≤ 40 → prB (w2.2.1 36) (w2.2.1 31) i0 n = prB (rpm u r1 (tC u r1 a)).1 (rpm u r2 (tC u r2 b)).1 i0 n := by
      intro i0 n
      induction n with
      | zero => exact fun _ => rfl
      | succ n ih =>
        intro hn
        unfold prB
        rw [ih (by omega), n36 _ (by omega), n36 _ (by omega), n4]
    refine ⟨w2, q2, p2, rfl, rfl, rfl, hk, qq, f3, ?_, n3, fun z => absurd qt z, fun _ => n2⟩
    rw [if_pos qt, if_pos qt, v47, v49, m100, ck_t (inb_nI (by omega) (by decide)), rA_nI (by omega), show v.2.1 16 (100 * r1 + a) = nI (tC u r1 a) by rw [hv0.1 16 (by decide)]; exact ta, g1, ob_i, d1, ob_i, show rF c 0 48 = nI r2 by show c.1 48 = _; rw [d2, gf 48 (by decide)]; exact v48, show rF c 0 50 = nI b by show c.1 50 = _; rw [d2, gf 50 (by decide)]; exact v50, m100, ck_t (inb_nI (by omega) (by decide)), rA_nI (by omega), show c.2.1 16 (100 * r2 + b) = nI (tC u r2 b) by rw [hc1.1 16 (by decide), hA1 16 (by decide) (by decide)]; exact sa, n1, ob_i]
    unfold g_X10_pair_j185
    by_cases z2 : q = 2
    · rw [if_pos z2, if_pos z2, if_pos z2, show g_X10_pair_j200 F 0 0 8 w2 = _ from m_prl (a := 0) (n := 8) (by omega) hF, n36' 0 8 (by omega)]
    · rw [if_neg z2, if_neg z2, if_neg z2, show g_X10_pair_j200 F 0 8 32 w2 = _ from m_prl (a := 8) (n := 32) (by omega) hF, n36' 8 32 (by omega)]
  · rw [if_neg qt, if_neg qt, v49, v50]
    refine ⟨v, q2, p2, rfl, rfl, rfl, hk, qq, f3, ?_, hokv, fun _ => hv0, fun z => absurd z qt⟩
    by_cases z0 : q = 0
    · rw [if_pos z0, if_pos z0]
    · rw [if_neg z0, if_neg z0]
end W_37
section W_38
-- 97x.rests
/-! rests, hangs of the reference: the bits -/
theorem shr5 {k : Nat} (h : k < 2 ^ 31) : dx_shr (nI k) 5 = nI (k / 32) := by
  have := pk_shrN h (5 &&& 31) 5 (by decide)
  exact this
def addB (A : Nat → Int32) (k : Nat) : Nat → Int32 := upd A (k / 32) (A (k / 32) ||| dx_shl 1 (nI k &&& 31))
theorem m_adds {F k : Nat} {v : rg_U} (hk : k < 3808) : g_X10_adds F (nI k) v = some (rw_ v 34 (addB (v.2.1 34) k)) := by
  unfold g_X10_adds
  rw [shr5 (by omega), ck_t (inb_nI (by omega) (by decide)), ck_t (inb_nI (by omega) (by decide)), lt1_i, sA_nI (by omega), rA_nI (by omega)]
  rfl
def clA (A : Nat → Int32) : Nat → Int32 := fun i => if i < 119 then 0 else A i
def orB (A R : Nat → Int32) (p : Nat) : Nat → Int32 := fun i => if i < 119 then A i ||| R (119 * p + i) else A i
def stR (R A : Nat → Int32) (p : Nat) : Nat → Int32 := fun i => if 119 * p ≤ i ∧ i < 119 * p + 119 then A (i - 119 * p) else R i
theorem rw_ext {u v : rg_U} {o : Nat} {m : Nat → Int32} (h1 : v.1 = u.1) (h2 : v.2.2 = u.2.2) (h : ∀ j i, v.2.1 j i = if j = o then m i else u.2.1 j i) : v = rw_ u o m := by
  refine Prod.ext h1 (Prod.ext ?_ h2)
  funext j i
  show v.2.1 j i = va_up u.2.1 o m j i
  rw [h]
  by_cases q : j = o
  · rw [if_pos q, q, pm_up_s]
  · rw [if_neg q, pm_up_n q]
theorem m_clearsLooked {F : Nat} {v : rg_U} (hF : 10000 < F) : g_X10_clearsLooked F v = some (rw_ v 34 (clA (v.2.1 34))) := by
  obtain ⟨w, e, w1, w2, w3⟩ := lp_ex (body := fun (s : Int32 × rg_U) => g_X10_clearsLooked_l2 F s.1 s.2) (P := fun k s => ∃ m, k + m = 119 ∧ s.1 = nI m ∧ s.2.1 = v.1 ∧ s.2.2.2 = v.2.2 ∧ ∀ j i, s.2.2.1 j i = if j = 34 ∧ i < m then 0 else v.2.1 j i) (R := fun w => w.1 = v.1 ∧ w.2.2 = v.2.2 ∧ ∀ j i, w.2.1 j i = if j = 34 ∧ i < 119 then 0 else v.2.1 j i) (by
    rintro k ⟨s1, s2⟩ ⟨m, hm, e1, e2, e3, hv⟩
    dsimp only at e1 e2 e3 hv
    subst e1
    unfold g_X10_clearsLooked_l2
    dsimp only
    by_cases q : m = 119
    · right
      subst q
      exact ⟨s2, if_pos (by decide), e2, e3, hv⟩
    · left
      rw [if_neg (show ¬ (119 : Int32) ≤ nI m from nI_ge (a := m) (b := 119) (by omega) (by decide)), ck_t (inb_nI (by omega) (by decide)), lt1_i, sA_nI (by omega), nI_1]
      refine ⟨_, k - 1, rfl, by omega, m + 1, by omega, rfl, e2, e3, fun j i => ?_⟩
      rw [R_at, hv j i]
      by_cases z : j = 34 ∧ i = m
      · rw [if_pos z, if_pos (show j = 34 ∧ i < m + 1 by omega)]
      · rw [if_neg z]
        by_cases y : j = 34 ∧ i < m
        · rw [if_pos y, if_pos (show j = 34 ∧ i < m + 1 by omega)]
        · rw [if_neg y, if_neg (show ¬ (j = 34 ∧ i < m + 1) by omega)]) F 119 ((0 : Int32), v) (by omega) ⟨0, rfl, rfl, rfl, rfl, fun j i => by rw [if_neg (by omega)]⟩
  unfold g_X10_clearsLooked
  rw [e, ob_i, rw_ext (u := v) (v := w) (o := 34) (m := clA (v.2.1 34)) w1 w2 (fun j i => ?_)]
  rw [w3]
  unfold clA
  by_cases q : j = 34
  · subst q
    by_cases z : i < 119
    · rw [if_pos ⟨rfl, z⟩, if_pos rfl, if_pos z]
    · rw [if_neg (fun y => z y.2), if_pos rfl, if_neg z]
  · rw [if_neg (fun y => q y.1), if_neg q]
theorem m_looksAt {F p : Nat} {v : rg_U} (hp : p < 40) (hF : 10000 < F) : g_X10_looksAt F (nI p) v = some (rw_ v 34 (orB (v.2.1 34) (v.2.1 33) p)) := by
  obtain ⟨w, e, w1, w2, w3⟩ := lp_ex (body := fun (s : Int32 × rg_U) => g_X10_looksAt_l2 F (nI p) s.1 s.2) (P := fun k s => ∃ m, k + m = 119 ∧ s.1 = nI m ∧ s.2.1 = v.1 ∧ s.2.2.2 = v.2.2 ∧ ∀ j i, s.2.2.1 j i = if j = 34 ∧ i < m then v.2.1 34 i ||| v.2.1 33 (119 * p + i) else v.2.1 j i) (R := fun w => w.1 = v.1 ∧ w.2.2 = v.2.2 ∧ ∀ j i, w.2.1 j i = if j = 34 ∧ i < 119 then v.2.1 34 i ||| v.2.1 33 (119 * p + i) else v.2.1 j i) (by
    rintro k ⟨s1, s2⟩ ⟨m, hm, e1, e2, e3, hv⟩
    dsimp only at e1 e2 e3 hv
    subst e1
    unfold g_X10_looksAt_l2
    dsimp only
    by_cases q : m = 119
    · right
      subst q
      exact ⟨s2, if_pos (by decide), e2, e3, hv⟩
    · left
      rw [if_neg (show ¬ (119 : Int32) ≤ nI m from nI_ge (a := m) (b := 119) (by omega) (by decide)), show (119 : Int32) * nI p + nI m = nI (119 * p + m) by rw [show (119 : Int32) * nI p = nI (119 * p) from pk_mul 119 _, nI_add], ck_t (inb_nI (by omega) (by decide)), ck_t (inb_nI (by omega) (by decide)), ck_t (inb_nI (by omega) (by decide)), lt1_i, sA_nI (by omega), rA_nI (by omega), rA_nI (by omega), nI_1]
      refine ⟨_, k - 1, rfl, by omega, m + 1, by omega, rfl, e2, e3, fun j i => ?_⟩
      rw [R_at, hv j i, hv 34 m, hv 33 (119 * p + m), if_neg (show ¬ (34 = 34 ∧ m < m) by omega), if_neg (show ¬ (33 = 34 ∧ 119 * p + m < m) by omega)]
      by_cases z : j = 34 ∧ i = m
      · rw [if_pos z, if_pos (show j = 34 ∧ i < m + 1 by omega), z.2]
      · rw [if_neg z]
        by_cases y : j = 34 ∧ i < m
        · rw [if_pos y, if_pos (show j = 34 ∧ i < m + 1 by omega)]
        · rw [if_neg y, if_neg (show ¬ (j = 34 ∧ i < m + 1) by omega)]) F 119 ((0 : Int32), v) (by omega) ⟨0, rfl, rfl, rfl, rfl, fun j i => by rw [if_neg (by omega)]⟩
  unfold g_X10_looksAt
  rw [e, ob_i, rw_ext (u := v) (v := w) (o := 34) (m := orB (v.2.1 34) (v.2.1 33) p) w1 w2 (fun j i => ?_)]
  rw [w3]
  unfold orB
  by_cases q : j = 34
  · subst q
    by_cases z : i < 119
    · rw [if_pos ⟨rfl, z⟩, if_pos rfl, if_pos z]
    · rw [if_neg (fun y => z y.2), if_pos rfl, if_neg z]
  · rw [if_neg (fun y => q y.1), if_neg q]
theorem m_restsOn {F p : Nat} {v : rg_U} (hp : p < 40) (hF : 10000 < F) : g_X10_restsOn F (nI p) v = some (rw_ v 33 (stR (v.2.1 33) (v.2.1 34) p)) := by
  obtain ⟨w, e, w1, w2, w3⟩ := lp_ex (body := fun (s : Int32 × rg_U) => g_X10_restsOn_l2 F (nI p) s.1 s.2) (P := fun k s => ∃ m, k + m = 119 ∧ s.1 = nI m ∧ s.2.1 = v.1 ∧ s.2.2.2 = v.2.2 ∧ ∀ j i, s.2.2.1 j i = if j = 33 ∧ 119 * p ≤ i ∧ i < 119 * p + m then v.2.1 34 (i - 119 * p) else v.2.1 j i) (R := fun w => w.1 = v.1 ∧ w.2.2 = v.2.2 ∧ ∀ j i, w.2.1 j i = if j = 33 ∧ 119 * p ≤ i ∧ i < 119 * p + 119 then v.2.1 34 (i - 119 * p) else v.2.1 j i) (by
    rintro k ⟨s1, s2⟩ ⟨m, hm, e1, e2, e3, hv⟩
    dsimp only at e1 e2 e3 hv
    subst e1
    unfold g_X10_restsOn_l2
    dsimp only
    by_cases q : m = 119
    · right
      subst q
      exact ⟨s2, if_pos (by decide), e2, e3, hv⟩
    · left
      rw [if_neg (show ¬ (119 : Int32) ≤ nI m from nI_ge (a := m) (b := 119) (by omega) (by decide)), show (119 : Int32) * nI p + nI m = nI (119 * p + m) by rw [show (119 : Int32) * nI p = nI (119 * p) from pk_mul 119 _, nI_add], ck_t (inb_nI (by omega) (by decide)), ck_t (inb_nI (by omega) (by decide)), lt1_i, sA_nI (by omega), rA_nI (by omega), nI_1]
      refine ⟨_, k - 1, rfl, by omega, m + 1, by omega, rfl, e2, e3, fun j i => ?_⟩
      rw [R_at, hv j i, hv 34 m, if_neg (show ¬ (34 = 33 ∧ 119 * p ≤ m ∧ m < 119 * p + m) by omega)]
      by_cases z : j = 33 ∧ i = 119 * p + m
      · rw [if_pos z, if_pos (show j = 33 ∧ 119 * p ≤ i ∧ i < 119 * p + (m + 1) by omega), z.2, Nat.add_sub_cancel_left]
      · rw [if_neg z]
        by_cases y : j = 33 ∧ 119 * p ≤ i ∧ i < 119 * p + m
        · rw [if_pos y, if_pos (show j = 33 ∧ 119 * p ≤ i ∧ i < 119 * p + (m + 1) by omega)]
        · rw [if_neg y, if_neg (show ¬ (j = 33 ∧ 119 * p ≤ i ∧ i < 119 * p + (m + 1)) by omega)]) F 119 ((0 : Int32), v) (by omega) ⟨0, rfl, rfl, rfl, rfl, fun j i => by rw [if_neg (by omega)]⟩
  unfold g_X10_restsOn
  rw [e, ob_i, rw_ext (u := v) (v := w) (o := 33) (m := stR (v.2.1 33) (v.2.1 34) p) w1 w2 (fun j i => ?_)]
  rw [w3]
  unfold stR
  by_cases q : j = 33
  · subst q
    by_cases z : 119 * p ≤ i ∧ i < 119 * p + 119
    · rw [if_pos ⟨rfl, z⟩, if_pos rfl, if_pos z]
    · rw [if_neg (fun y => z y.2), if_pos rfl, if_neg z]
  · rw [if_neg (fun y => q y.1), if_neg q]
end W_38
section W_39
-- 97y.looks
/-! what an order looks at -/
def isReg (x : Int32) : Prop := ∃ p, p < 8 ∧ x = nI p
theorem isRg {x : Int32} (h : ¬ g_X10_isRegister x = 0) : isReg x := by
  obtain ⟨k, e, h1, h2⟩ := in_nat (v := x) h (by decide)
  have e1 : (7 : Int32).toInt = 7 := rfl
  exact ⟨k, by omega, e⟩
theorem fine_b {k a b c : Int32} (h : ¬ g_X10_isFine k a b c = 0) (hk : k = 3 ∨ k = 11 ∨ k = 13 ∨ k = 14) : isReg a ∧ isReg b := by
  rcases hk with rfl | rfl | rfl | rfl
  · have e : g_X10_isFine 3 a b c = if g_X10_isRegister a = 0 then 0 else g_X10_isRegister b := rfl
    rw [e] at h
    by_cases q : g_X10_isRegister a = 0
    · rw [if_pos q] at h; exact absurd rfl h
    · rw [if_neg q] at h; exact ⟨isRg q, isRg h⟩
  · have e : g_X10_isFine 11 a b c = if g_X10_isRegister a = 0 then 0 else g_X10_isRegister b := rfl
    rw [e] at h
    by_cases q : g_X10_isRegister a = 0
    · rw [if_pos q] at h; exact absurd rfl h
    · rw [if_neg q] at h; exact ⟨isRg q, isRg h⟩
  · have e : g_X10_isFine 13 a b c = if g_X10_isRegister a = 0 then 0 else g_X10_isRegister b := rfl
    rw [e] at h
    by_cases q : g_X10_isRegister a = 0
    · rw [if_pos q] at h; exact absurd rfl h
    · rw [if_neg q] at h; exact ⟨isRg q, isRg h⟩
  · have e : g_X10_isFine 14 a b c = if g_X10_isRegister a = 0 then 0 else g_X10_isRegister b := rfl
    rw [e] at h
    by_cases q : g_X10_isRegister a = 0
    · rw [if_pos q] at h; exact absurd rfl h
    · rw [if_neg q] at h; exact ⟨isRg q, isRg h⟩
theorem fine_c {k a b c : Int32} (h : ¬ g_X10_isFine k a b c = 0) (hk : ¬ g_X10_isIn k 4 10 = 0 ∨ k = 12) : isReg a ∧ isReg b ∧ isReg c := by
  have e : g_X10_isFine k a b c = if g_X10_isRegister a = 0 then 0 else if g_X10_isRegister b = 0 then 0 else if g_X10_isRegister c = 0 then 0 else 1 := by
    rcases hk with hk | rfl
    · obtain ⟨n, rfl, h1, h2⟩ := in_nat hk (by decide)
      have e1 : (4 : Int32).toInt = 4 := rfl
      have e2 : (10 : Int32).toInt = 10 := rfl
      rcases (show n = 4 ∨ n = 5 ∨ n = 6 ∨ n = 7 ∨ n = 8 ∨ n = 9 ∨ n = 10 by omega) with rfl | rfl | rfl | rfl | rfl | rfl | rfl
      · exact fe_4.symm.trans (by rw [show askA 4 = 1 from rfl, show askB 4 = 1 from rfl, show askC 4 = 1 from rfl, ft1, ft1, ft1])
      · exact fe_5.symm.trans (by rw [show askA 5 = 1 from rfl, show askB 5 = 1 from rfl, show askC 5 = 1 from rfl, ft1, ft1, ft1])
      · exact fe_6.symm.trans (by rw [show askA 6 = 1 from rfl, show askB 6 = 1 from rfl, show askC 6 = 1 from rfl, ft1, ft1, ft1])
      · exact fe_7.symm.trans (by rw [show askA 7 = 1 from rfl, show askB 7 = 1 from rfl, show askC 7 = 1 from rfl, ft1, ft1, ft1])
      · exact fe_8.symm.trans (by rw [show askA 8 = 1 from rfl, show askB 8 = 1 from rfl, show askC 8 = 1 from rfl, ft1, ft1, ft1])
      · exact fe_9.symm.trans (by rw [show askA 9 = 1 from rfl, show askB 9 = 1 from rfl, show askC 9 = 1 from rfl, ft1, ft1, ft1])
      · exact fe_10.symm.trans (by rw [show askA 10 = 1 from rfl, show askB 10 = 1 from rfl, show askC 10 = 1 from rfl, ft1, ft1, ft1])
    · exact fe_12.symm.trans (by rw [show askA 12 = 1 from rfl, show askB 12 = 1 from rfl, show askC 12 = 1 from rfl, ft1, ft1, ft1])
  rw [e] at h
  by_cases q : g_X10_isRegister a = 0
  · rw [if_pos q] at h; exact absurd rfl h
  rw [if_neg q] at h
  by_cases p : g_X10_isRegister b = 0
  · rw [if_pos p] at h; exact absurd rfl h
  rw [if_neg p] at h
  by_cases r : g_X10_isRegister c = 0
  · rw [if_pos r] at h; exact absurd rfl h
  exact ⟨isRg q, isRg p, isRg r⟩
theorem rw_rw {u : rg_U} {o : Nat} {m m' : Nat → Int32} : rw_ (rw_ u o m) o m' = rw_ u o m' := by
  unfold rw_
  dsimp only
  rw [va_twice]
theorem rw_A {u : rg_U} {o : Nat} {m : Nat → Int32} : (rw_ u o m).2.1 o = m := pm_up_s
theorem rw_n {u : rg_U} {o j : Nat} {m : Nat → Int32} (h : j ≠ o) : (rw_ u o m).2.1 j = u.2.1 j := pm_up_n h
/-- what is looked at: A is kept beside, R by place -/
def lkA (P : Prg) (m : Row) (l : Nat) (R A : Nat → Int32) : Nat → Int32 :=
  let k := kindOf P (m 120)
  let c := tn (m 120)
  let A0 := clA A
  if k = -1 then A0 else
  let A1 := if k = 3 ∨ k = 11 ∨ k = 14 ∨ k = 13 ∨ ¬ g_X10_isIn k 4 10 = 0 ∨ k = 12 then orB A0 R (tn (P.2.2.1 c)) else A0
  let A2 := if ¬ g_X10_isIn k 4 10 = 0 ∨ k = 12 then orB A1 R (tn (P.2.2.2 c)) else A1
  let A3 := if k = 14 then orB A2 R (tn (P.2.1 c)) else A2
  let A4 := if k = 13 ∧ ¬ g_X10_isIn (m (40 + tn (P.2.2.1 c))) 0 31 = 0 then orB A3 R (8 + tn (m (40 + tn (P.2.2.1 c)))) else A3
  let A5 := if k = 19 ∨ k = 20 then addB A4 (3008 + l) else A4
  addB A5 (tn (m 133))
end W_39
section W_40
-- 97z.looks
theorem m_looks {F r cn l t : Nat} {v : rg_U} (hr : r < 5) (hP : okP (Pm v r)) (h41 : v.1 41 = nI r) (h42 : v.1 42 = nI l) (hl : l ≤ 800) (hl2 : (kindOf (Pm v r) (nI cn) = 19 ∨ kindOf (Pm v r) (nI cn) = 20) → l < 800) (hc : v.2.1 31 120 = nI cn) (hcn : cn ≤ 64) (ht : v.2.1 31 133 = nI t) (ht3 : t ≤ 3000) (hF : 10000 < F) : g_X10_looks F v = some (rw_ v 34 (lkA (Pm v r) (v.2.1 31) l (v.2.1 33) (v.2.1 34))) := by
  have a215 : ∀ A, g_X10_looks_j215 F (rw_ v 34 A) = some (rw_ v 34 (addB A t)) := fun A => by
    unfold g_X10_looks_j215
    rw [ck_t (show inb 133 134 by decide), show rA (rw_ v 34 A) 31 133 = nI t from (congrFun (rw_n (by decide)) 133).trans ht, m_adds (by omega), ob_i, rw_A, rw_rw]
  have a203 : l < 800 → ∀ A, g_X10_looks_j203 F (rw_ v 34 A) = some (rw_ v 34 (addB (addB A (3008 + l)) t)) := fun q A => by
    unfold g_X10_looks_j203
    rw [show rF (rw_ v 34 A) 0 42 = nI l from h42, show (3008 : Int32) + nI l = nI (3008 + l) from nI_add 3008 l, m_adds (by omega), ob_i, rw_A, rw_rw, a215]
  have hkk : ∀ k, kindOf (Pm v r) (nI cn) = k → ∀ A, g_X10_looks_j191 F k (rw_ v 34 A) = some (rw_ v 34 (addB (if k = 19 ∨ k = 20 then addB A (3008 + l) else A) t)) := fun k hk A => by
    unfold g_X10_looks_j191
    by_cases q : k = 19
    · rw [if_pos q, if_pos (Or.inl q), a203 (hl2 (Or.inl (hk.trans q)))]
    · rw [if_neg q]
      by_cases p : k = 20
      · rw [if_pos p, if_pos (Or.inr p), a203 (hl2 (Or.inr (hk.trans p)))]
      · rw [if_neg p, if_neg (fun z => z.elim q p), a215]
  have h120 : rA v 31 120 = nI cn := hc
  unfold g_X10_looks
  rw [ck_t (show inb 120 134 by decide), show rF v 0 41 = nI r from h41, h120, m_kindAt hr hcn, ob_i, m_clearsLooked hF, ob_i]
  unfold lkA
  dsimp only
  rw [hc, ht, tnn (show t < 2 ^ 31 by omega), tnn (show cn < 2 ^ 31 by omega)]
  generalize hk : kindOf (Pm v r) (nI cn) = k
  by_cases q0 : k = -1
  · rw [if_pos q0, if_pos q0]
  rw [if_neg q0, if_neg q0]
  have hc64 : cn < 64 := by
    rcases Nat.lt_or_ge cn 64 with z | z
    · exact z
    · exfalso
      apply q0
      rw [← hk, show cn = 64 by omega]
      rfl
  have hk1 : (Pm v r).1 cn = k := by
    rw [← hk]
    unfold kindOf
    rw [if_pos (show nI cn < (64 : Int32) from nI_lt (a := cn) (b := 64) hc64 (by decide)), tnn (by omega)]
  have hfine := hP cn hc64
  rw [hk1] at hfine
  generalize eB : (Pm v r).2.1 cn = B at *
  generalize eC : (Pm v r).2.2.1 cn = C at *
  generalize eD : (Pm v r).2.2.2 cn = D at *
  have e7 : ∀ A, rA (rw_ v 34 A) 7 (nI (64 * r + cn)) = B := fun A => by rw [rA_nI (by omega), rw_n (by decide), ← eB, Pm_1 hc64]
  have e8 : ∀ A, rA (rw_ v 34 A) 8 (nI (64 * r + cn)) = C := fun A => by rw [rA_nI (by omega), rw_n (by decide), ← eC, Pm_2 hc64]
  have e9 : ∀ A, rA (rw_ v 34 A) 9 (nI (64 * r + cn)) = D := fun A => by rw [rA_nI (by omega), rw_n (by decide), ← eD, Pm_3 hc64]
  have e41 : ∀ A, rF (rw_ v 34 A) 0 41 = nI r := fun A => h41
  have e64 : (64 : Int32) * nI r + nI cn = nI (64 * r + cn) := by rw [show (64 : Int32) * nI r = nI (64 * r) from pk_mul 64 r, nI_add]
  have aLk : ∀ (p : Nat) A, p < 40 → g_X10_looksAt F (nI p) (rw_ v 34 A) = some (rw_ v 34 (orB A (v.2.1 33) p)) := fun p A hp => by
    rw [m_looksAt hp hF, rw_A, rw_rw, rw_n (by decide)]
  have a149 : ∀ A, g_X10_looks_j149 F k C (rw_ v 34 A) = some (rw_ v 34 (addB (if k = 19 ∨ k = 20 then addB (if k = 13 ∧ ¬ g_X10_isIn (v.2.1 31 (40 + tn C)) 0 31 = 0 then orB A (v.2.1 33) (8 + tn (v.2.1 31 (40 + tn C))) else A) (3008 + l) else (if k = 13 ∧ ¬ g_X10_isIn (v.2.1 31 (40 + tn C)) 0 31 = 0 then orB A (v.2.1 33) (8 + tn (v.2.1 31 (40 + tn C))) else A)) t)) := fun A => by
    unfold g_X10_looks_j149
    by_cases q : k = 13
    · obtain ⟨-, p, hp, e⟩ := fine_b hfine (Or.inr (Or.inr (Or.inl q)))
      rw [if_pos q, e, c40, tnn (by omega), ck_t (inb_nI (by omega) (by decide)), ck_t (inb_nI (by omega) (by decide)), rA_nI (by omega), rw_n (by decide)]
      by_cases z : g_X10_isIn (v.2.1 31 (40 + p)) 0 31 = 0
      · rw [if_pos z, if_neg (c := k = 13 ∧ ¬ g_X10_isIn (v.2.1 31 (40 + p)) 0 31 = 0) (fun y => y.2 z), hkk k hk]
      · obtain ⟨s, es, s1, s2⟩ := in_nat z (by decide)
        have e31 : (31 : Int32).toInt = 31 := rfl
        rw [if_neg z, if_pos (c := k = 13 ∧ ¬ g_X10_isIn (v.2.1 31 (40 + p)) 0 31 = 0) ⟨q, z⟩, es, c8, tnn (by omega), aLk _ _ (by omega), ob_i, hkk k hk]
    · rw [if_neg q, if_neg (c := k = 13 ∧ ¬ g_X10_isIn (v.2.1 31 (40 + tn C)) 0 31 = 0) (fun y => q y.1), hkk k hk]
  have a138 : ∀ A, g_X10_looks_j138 F k B C (rw_ v 34 A) = g_X10_looks_j149 F k C (rw_ v 34 (if k = 14 then orB A (v.2.1 33) (tn B) else A)) := fun A => by
    unfold g_X10_looks_j138
    by_cases q : k = 14
    · obtain ⟨⟨p, hp, e⟩, -⟩ := fine_b hfine (Or.inr (Or.inr (Or.inr q)))
      rw [if_pos q, if_pos q, e, aLk p A (by omega), ob_i, tnn (by omega)]
    · rw [if_neg q, if_neg q]
  have a120 : (¬ g_X10_isIn k 4 10 = 0 ∨ k = 12) → ∀ A, g_X10_looks_j120 F (nI cn) k B C (rw_ v 34 A) = g_X10_looks_j138 F k B C (rw_ v 34 (orB A (v.2.1 33) (tn D))) := fun q A => by
    obtain ⟨-, -, p, hp, e⟩ := fine_c hfine q
    unfold g_X10_looks_j120
    rw [e41, e64, ck_t (inb_nI (by omega) (by decide)), e9, e, aLk p A (by omega), ob_i, tnn (by omega)]
  have a104 : ∀ A, g_X10_looks_j104 F (nI cn) k B C (rw_ v 34 A) = g_X10_looks_j138 F k B C (rw_ v 34 (if ¬ g_X10_isIn k 4 10 = 0 ∨ k = 12 then orB A (v.2.1 33) (tn D) else A)) := fun A => by
    unfold g_X10_looks_j104
    by_cases q : g_X10_isIn k 4 10 = 0
    · rw [if_pos q]
      by_cases p : k = 12
      · rw [if_pos p, if_pos (Or.inr p), a120 (Or.inr p)]
      · rw [if_neg p, if_neg (fun z => z.elim (fun y => y q) p)]
    · rw [if_neg q, if_pos (Or.inl q), a120 (Or.inl q)]
  have a98 : (k = 3 ∨ k = 11 ∨ k = 14 ∨ k = 13 ∨ ¬ g_X10_isIn k 4 10 = 0 ∨ k = 12) → ∀ A, g_X10_looks_j98 F (nI cn) k B C (rw_ v 34 A) = g_X10_looks_j104 F (nI cn) k B C (rw_ v 34 (orB A (v.2.1 33) (tn C))) := fun q A => by
    have hp : isReg C := by
      by_cases z : ¬ g_X10_isIn k 4 10 = 0 ∨ k = 12
      · exact (fine_c hfine z).2.1
      · refine (fine_b hfine ?_).2
        rcases q with q | q | q | q | q
        · exact Or.inl q
        · exact Or.inr (Or.inl q)
        · exact Or.inr (Or.inr (Or.inr q))
        · exact Or.inr (Or.inr (Or.inl q))
        · exact absurd q z
    obtain ⟨p, hp, e⟩ := hp
    unfold g_X10_looks_j98
    rw [e, aLk p A (by omega), ob_i, tnn (by omega)]
  have fin : ∀ A, g_X10_looks_j104 F (nI cn) k B C (rw_ v 34 A) = some (rw_ v 34 (addB (if k = 19 ∨ k = 20 then addB (if k = 13 ∧ ¬ g_X10_isIn (v.2.1 31 (40 + tn C)) 0 31 = 0 then orB (if k = 14 then orB (if ¬ g_X10_isIn k 4 10 = 0 ∨ k = 12 then orB A (v.2.1 33) (tn D) else A) (v.2.1 33) (tn B) else (if ¬ g_X10_isIn k 4 10 = 0 ∨ k = 12 then orB A (v.2.1 33) (tn D) else A)) (v.2.1 33) (8 + tn (v.2.1 31 (40 + tn C))) else (if k = 14 then orB (if ¬ g_X10_isIn k 4 10 = 0 ∨ k = 12 then orB A (v.2.1 33) (tn D) else A) (v.2.1 33) (tn B) else (if ¬ g_X10_isIn k 4 10 = 0 ∨ k = 12 then orB A (v.2.1 33) (tn D) else A))) (3008 + l) else (if k = 13 ∧ ¬ g_X10_isIn (v.2.1 31 (40 + tn C)) 0 31 = 0 then orB (if k = 14 then orB (if ¬ g_X10_isIn k 4 10 = 0 ∨ k = 12 then orB A (v.2.1 33) (tn D) else A) (v.2.1 33) (tn B) else (if ¬ g_X10_isIn k 4 10 = 0 ∨ k = 12 then orB A (v.2.1 33) (tn D) else A)) (v.2.1 33) (8 + tn (v.2.1 31 (40 + tn C))) else (if k = 14 then orB (if ¬ g_X10_isIn k 4 10 = 0 ∨ k = 12 then orB A (v.2.1 33) (tn D) else A) (v.2.1 33) (tn B) else (if ¬ g_X10_isIn k 4 10 = 0 ∨ k = 12 then orB A (v.2.1 33) (tn D) else A)))) t)) := fun A => by
    rw [a104, a138, a149]
  rw [e41, e64, ck_t (inb_nI (by omega) (by decide)), ck_t (inb_nI (by omega) (by decide)), e7, e8]
  by_cases qa : k = 3 ∨ k = 11 ∨ k = 14 ∨ k = 13 ∨ ¬ g_X10_isIn k 4 10 = 0 ∨ k = 12
  · rw [if_pos qa, a98 qa, fin]
    by_cases c1 : k = 3
    · rw [if_pos c1]
    rw [if_neg c1]
    by_cases c2 : k = 11
    · rw [if_pos c2]
    rw [if_neg c2]
    by_cases c3 : k = 14
    · rw [if_pos c3]
    rw [if_neg c3]
    by_cases c4 : k = 13
    · rw [if_pos c4]
    rw [if_neg c4]
    by_cases c5 : g_X10_isIn k 4 10 = 0
    · rw [if_pos c5]
      by_cases c6 : k = 12
      · rw [if_pos c6]
      · exact absurd qa (by simp [c1, c2, c3, c4, c5, c6])
    · rw [if_neg c5]
  · rw [if_neg (c := k = 3 ∨ k = 11 ∨ k = 14 ∨ k = 13 ∨ ¬ g_X10_isIn k 4 10 = 0 ∨ k = 12) qa, fin]
    have c5 : g_X10_isIn k 4 10 = 0 := Classical.byContradiction fun z => qa (Or.inr (Or.inr (Or.inr (Or.inr (Or.inl z)))))
    rw [if_neg (fun z => qa (Or.inl z)), if_neg (fun z => qa (Or.inr (Or.inl z))), if_neg (fun z => qa (Or.inr (Or.inr (Or.inl z)))), if_neg (fun z => qa (Or.inr (Or.inr (Or.inr (Or.inl z))))), if_pos c5, if_neg (fun z => qa (Or.inr (Or.inr (Or.inr (Or.inr (Or.inr z))))))]
end W_40
section W_41
-- 97za.put
/-! the place that a step puts at is a place -/
def okQ (z : MSt) : Prop := z.2.2.2 = -1 ∨ ∃ p, p < 40 ∧ z.2.2.2 = nI p
theorem okQ_giv {m : Row} {p : Nat} {s n : Int32} (hp : p < 40) : okQ (mgiv m p s n) := Or.inr ⟨p, hp, rfl⟩
theorem okQ_trp {m : Row} {t : Int32} : okQ (mtrp m t) := Or.inl rfl
theorem okQ_if {c : Prop} [Decidable c] {x y : MSt} (h1 : okQ x) (h2 : okQ y) : okQ (if c then x else y) := by
  by_cases h : c
  · rw [if_pos h]; exact h1
  · rw [if_neg h]; exact h2
theorem okQ_reck {m : Row} {k a b c : Nat} (ha : a < 40) : okQ (mreck m k a b c) := by
  unfold mreck
  exact okQ_if okQ_trp (okQ_if okQ_trp (okQ_if (okQ_giv ha) (okQ_giv ha)))
theorem okQ_cel {m : Row} {y : Nat} {f : Nat → MSt} (hf : ∀ p, p < 40 → okQ (f p)) : okQ (mcel m y f) := by
  unfold mcel
  by_cases h1 : m y = 2
  · rw [if_pos h1]
    by_cases h2 : 0 ≤ m (40 + y) ∧ m (40 + y) ≤ 31
    · rw [if_pos h2]
      obtain ⟨q, hq, q1, q2⟩ := in_nat (v := m (40 + y)) (lo := 0) (hi := 31) (fun z => (in_0.mp z) h2) (by decide)
      have e1 : (31 : Int32).toInt = 31 := rfl
      apply hf
      rw [hq, tnn (by omega)]
      omega
    · rw [if_neg h2]; exact okQ_trp
  · rw [if_neg h1]; exact okQ_trp
theorem okQ_do {m : Row} {k : Nat} {a b c num en : Int32} (hk : k < 23) (hv : ¬ g_X10_isFine (nI k) a b c = 0) : okQ (mdo m k a b c num en) := by
  obtain ⟨fa, fb, fc⟩ := fine_abc hk hv
  match k, hk, fa, fb, fc with
  | 0, _, fa, fb, fc => exact Or.inl rfl
  | 1, _, fa, fb, fc =>
    obtain ⟨p, hp, rfl⟩ := reg_of (x := a) fa
    exact okQ_giv (by rw [tnn (by omega)]; omega)
  | 2, _, fa, fb, fc =>
    obtain ⟨p, hp, rfl⟩ := reg_of (x := a) fa
    exact okQ_giv (by rw [tnn (by omega)]; omega)
  | 3, _, fa, fb, fc =>
    obtain ⟨p, hp, rfl⟩ := reg_of (x := a) fa
    exact okQ_giv (by rw [tnn (by omega)]; omega)
  | 4, _, fa, fb, fc =>
    obtain ⟨p, hp, rfl⟩ := reg_of (x := a) fa
    exact okQ_reck (by rw [tnn (by omega)]; omega)
  | 5, _, fa, fb, fc =>
    obtain ⟨p, hp, rfl⟩ := reg_of (x := a) fa
    exact okQ_reck (by rw [tnn (by omega)]; omega)
  | 6, _, fa, fb, fc =>
    obtain ⟨p, hp, rfl⟩ := reg_of (x := a) fa
    exact okQ_reck (by rw [tnn (by omega)]; omega)
  | 7, _, fa, fb, fc =>
    obtain ⟨p, hp, rfl⟩ := reg_of (x := a) fa
    exact okQ_reck (by rw [tnn (by omega)]; omega)
  | 8, _, fa, fb, fc =>
    obtain ⟨p, hp, rfl⟩ := reg_of (x := a) fa
    exact okQ_reck (by rw [tnn (by omega)]; omega)
  | 9, _, fa, fb, fc =>
    obtain ⟨p, hp, rfl⟩ := reg_of (x := a) fa
    exact okQ_reck (by rw [tnn (by omega)]; omega)
  | 10, _, fa, fb, fc =>
    obtain ⟨p, hp, rfl⟩ := reg_of (x := a) fa
    exact okQ_giv (by rw [tnn (by omega)]; omega)
  | 11, _, fa, fb, fc =>
    obtain ⟨p, hp, rfl⟩ := reg_of (x := a) fa
    show okQ (if m (tn b) = 1 then mgiv m (tn (nI p)) 1 (1 - m (40 + tn b)) else mtrp m 1)
    exact okQ_if (okQ_giv (by rw [tnn (by omega)]; omega)) okQ_trp
  | 12, _, fa, fb, fc =>
    obtain ⟨p, hp, rfl⟩ := reg_of (x := a) fa
    show okQ (if m (tn b) = 1 ∧ m (tn c) = 1 then mgiv m (tn (nI p)) 1 (m (40 + tn b) &&& m (40 + tn c)) else mtrp m 1)
    exact okQ_if (okQ_giv (by rw [tnn (by omega)]; omega)) okQ_trp
  | 13, _, fa, fb, fc =>
    obtain ⟨p, hp, rfl⟩ := reg_of (x := a) fa
    exact okQ_cel (fun q hq => okQ_giv (by rw [tnn (by omega)]; omega))
  | 14, _, fa, fb, fc => exact okQ_cel (fun q hq => okQ_giv hq)
  | 15, _, fa, fb, fc => exact Or.inl rfl
  | 16, _, fa, fb, fc =>
    show okQ (if m (tn a) = 1 then ((if m (40 + tn a) = 1 then upd m 120 b else m), 0, -1, -1) else mtrp m 1)
    exact okQ_if (Or.inl rfl) okQ_trp
  | 17, _, fa, fb, fc =>
    show okQ (if m 121 = 8 then mtrp m 4 else (upd (upd (upd m (122 + tn (m 121)) (m 120)) 121 (m 121 + 1)) 120 a, 0, -1, -1))
    exact okQ_if okQ_trp (Or.inl rfl)
  | 18, _, fa, fb, fc =>
    show okQ (if m 121 = 0 then (upd m 132 2, 0, -1, -1) else (upd (upd m 121 (m 121 - 1)) 120 (m (122 + tn (m 121 - 1))), 0, -1, -1))
    exact okQ_if (Or.inl rfl) (Or.inl rfl)
  | 19, _, fa, fb, fc =>
    obtain ⟨p, hp, rfl⟩ := reg_of (x := a) fa
    exact Or.inr ⟨p, by omega, rfl⟩
  | 20, _, fa, fb, fc =>
    obtain ⟨p, hp, rfl⟩ := reg_of (x := a) fa
    exact Or.inr ⟨p, by omega, rfl⟩
  | 21, _, fa, fb, fc => exact Or.inl rfl
  | 22, _, fa, fb, fc =>
    obtain ⟨p, hp, rfl⟩ := reg_of (x := a) fa
    exact okQ_giv (by rw [tnn (by omega)]; omega)
  | k + 23, hk, _, _, _ => omega
theorem step_put {P : Prg} {m : Row} {num en : Int32} (hP : okP P) (h : okR m) : okQ (mstep P m num en) := by
  obtain ⟨cn, hc1, hc2⟩ := h.1
  unfold mstep
  dsimp only
  by_cases q : kindOf P (m 120) = -1
  · rw [if_pos q]; exact Or.inl rfl
  · rw [if_neg q]
    rw [hc2] at q ⊢
    obtain ⟨c64, ek⟩ := kind_in hc1 q
    obtain ⟨k, hk23, ek2⟩ := fine_k (hP cn c64) (by rw [← ek]; exact q)
    have hv := hP cn c64
    rw [ek2] at hv
    rw [ek, ek2, tnn (show k < 2 ^ 31 by omega), tnn (show cn < 2 ^ 31 by omega)]
    exact okQ_do (m := upd m 120 (imin 64 (nI cn + 1))) (num := num) (en := en) hk23 hv
end W_41
section W_42
-- 97zb.rests
/-! rests of the reference: the table -/
def qS (u v : rg_U) (r : Nat) (m : Row) (l : Nat) (R A : Nat → Int32) : Prop := (∀ k, k ≠ 37 → k ≠ 38 → k ≠ 39 → k ≠ 41 → k ≠ 42 → v.1 k = u.1 k) ∧ v.1 41 = nI r ∧ v.1 42 = nI l ∧ v.2.1 31 = m ∧ v.2.1 33 = R ∧ v.2.1 34 = A ∧ ∀ j, j ≠ 31 → j ≠ 33 → j ≠ 34 → v.2.1 j = u.2.1 j
theorem qS_P {u v : rg_U} {r l : Nat} {m : Row} {R A : Nat → Int32} (h : qS u v r m l R A) : Pm v r = Pm u r ∧ Lm v r = Lm u r := by
  obtain ⟨-, -, -, -, -, -, h⟩ := h
  unfold Pm Lm
  rw [h 6 (by decide) (by decide) (by decide), h 7 (by decide) (by decide) (by decide), h 8 (by decide) (by decide) (by decide), h 9 (by decide) (by decide) (by decide), h 10 (by decide) (by decide) (by decide), h 11 (by decide) (by decide) (by decide), h 12 (by decide) (by decide) (by decide), h 13 (by decide) (by decide) (by decide), h 14 (by decide) (by decide) (by decide)]
  exact ⟨rfl, rfl⟩
theorem qS_34 {u v : rg_U} {r l : Nat} {m : Row} {R A A' : Nat → Int32} (h : qS u v r m l R A) : qS u (rw_ v 34 A') r m l R A' := by
  obtain ⟨a1, a2, a3, a4, a5, a6, a7⟩ := h
  exact ⟨a1, a2, a3, (rw_n (by decide)).trans a4, (rw_n (by decide)).trans a5, rw_A, fun j h1 h2 h3 => (rw_n h3).trans (a7 j h1 h2 h3)⟩
theorem qS_33 {u v : rg_U} {r l : Nat} {m : Row} {R R' A : Nat → Int32} (h : qS u v r m l R A) : qS u (rw_ v 33 R') r m l R' A := by
  obtain ⟨a1, a2, a3, a4, a5, a6, a7⟩ := h
  exact ⟨a1, a2, a3, (rw_n (by decide)).trans a4, rw_A, (rw_n (by decide)).trans a6, fun j h1 h2 h3 => (rw_n h2).trans (a7 j h1 h2 h3)⟩
theorem qS_31 {u v : rg_U} {r l : Nat} {m m' : Row} {R A : Nat → Int32} (h : qS u v r m l R A) : qS u (rw_ v 31 m') r m' l R A := by
  obtain ⟨a1, a2, a3, a4, a5, a6, a7⟩ := h
  exact ⟨a1, a2, a3, rw_A, (rw_n (by decide)).trans a5, (rw_n (by decide)).trans a6, fun j h1 h2 h3 => (rw_n h1).trans (a7 j h1 h2 h3)⟩
theorem qS_42 {u v : rg_U} {r l l' : Nat} {m : Row} {R A : Nat → Int32} (h : qS u v r m l R A) : qS u (sF v 0 42 (nI l')) r m l' R A := by
  obtain ⟨a1, a2, a3, a4, a5, a6, a7⟩ := h
  refine ⟨fun k h1 h2 h3 h4 h5 => ?_, ?_, rfl, a4, a5, a6, a7⟩
  · show upd v.1 42 (nI l') k = _
    rw [pk_un h5]; exact a1 k h1 h2 h3 h4 h5
  · show upd v.1 42 (nI l') 41 = _
    rw [pk_un (by decide)]; exact a2
theorem m_restPoke {F r n l : Nat} {u v : rg_U} {m : Row} {R A : Nat → Int32} (hr : r < 5) (hn : u.2.1 15 r = nI n) (hn8 : n ≤ 800) (hL : okL (Lm u r) n) (h : qS u v r m l R A) (hl : l ≤ n) (hF : 10000 < F) : (l < n ∧ (Lm u r).2.1 l = 2 ∧ (Lm u r).1 l = m 133 → ∃ w, g_X10_restPokes_l0 F v = some (.inl w) ∧ qS u w r (mput m (tn ((Lm u r).2.2.2.1 l)) ((Lm u r).2.2.2.2 l) ((Lm u r).2.2.1 l)) (l + 1) (stR R (addB (clA A) (3008 + l)) (tn ((Lm u r).2.2.2.1 l))) (addB (clA A) (3008 + l))) ∧ (¬ (l < n ∧ (Lm u r).2.1 l = 2 ∧ (Lm u r).1 l = m 133) → g_X10_restPokes_l0 F v = some (.inr v)) := by
  obtain ⟨eP, eL⟩ := qS_P h
  obtain ⟨a1, a2, a3, a4, a5, a6, a7⟩ := id h
  have a15 : v.2.1 15 r = nI n := by rw [a7 15 (by decide) (by decide) (by decide)]; exact hn
  unfold g_X10_restPokes_l0
  rw [show rF v 0 41 = nI r from a2, show rF v 0 42 = nI l from a3, ck_t (inb_nI hr (by decide)), rA_nI (by omega), a15, show (800 : Int32) * nI r + nI l = nI (800 * r + l) by rw [show (800 : Int32) * nI r = nI (800 * r) from pk_mul 800 r, nI_add]]
  by_cases q0 : l < n
  · rw [if_neg (nI_ge q0 (by omega))]
    simp only [ck_t (inb_nI (show 800 * r + l < 4000 by omega) (show 4000 < 2 ^ 31 by decide)), ck_t (show inb 133 134 by decide)]
    have d0 : rA v 10 (nI (800 * r + l)) = (Lm u r).1 l := by rw [rA_nI (by omega), ← eL, Lm_0 (by omega)]
    have d1 : rA v 11 (nI (800 * r + l)) = (Lm u r).2.1 l := by rw [rA_nI (by omega), ← eL, Lm_1 (by omega)]
    rw [d0, d1, show rA v 31 133 = m 133 from congrFun a4 133]
    by_cases q1 : (Lm u r).2.1 l = 2
    · rw [if_pos q1]
      by_cases q2 : (Lm u r).1 l = m 133
      · rw [if_pos q2]
        refine ⟨fun _ => ?_, fun z => absurd ⟨q0, q1, q2⟩ z⟩
        obtain ⟨p, hp, ep⟩ := hL l q0 q1
        have s1 := qS_34 (A' := addB (clA A) (3008 + l)) h
        have s2 := qS_33 (R' := stR R (addB (clA A) (3008 + l)) p) s1
        have g : ∀ w, qS u w r m l R (addB (clA A) (3008 + l)) → rA w 13 (nI (800 * r + l)) = nI p := fun w hw => by
          rw [← ep, rA_nI (by omega), ← (qS_P hw).2, Lm_3 (by omega)]
        have g13 : rA (rw_ (rw_ v 34 (addB (clA A) (3008 + l))) 33 (stR R (addB (clA A) (3008 + l)) p)) 13 (nI (800 * r + l)) = nI p := by
          rw [← ep, rA_nI (by omega), ← (qS_P s2).2, Lm_3 (by omega)]
        have g14 : rA (rw_ (rw_ v 34 (addB (clA A) (3008 + l))) 33 (stR R (addB (clA A) (3008 + l)) p)) 14 (nI (800 * r + l)) = (Lm u r).2.2.2.2 l := by
          rw [rA_nI (by omega), ← (qS_P s2).2, Lm_4 (by omega)]
        have g12 : rA (rw_ (rw_ v 34 (addB (clA A) (3008 + l))) 33 (stR R (addB (clA A) (3008 + l)) p)) 12 (nI (800 * r + l)) = (Lm u r).2.2.1 l := by
          rw [rA_nI (by omega), ← (qS_P s2).2, Lm_2 (by omega)]
        rw [m_clearsLooked hF, ob_i, a6, show rF (rw_ v 34 (clA A)) 0 42 = nI l from a3, show (3008 : Int32) + nI l = nI (3008 + l) from nI_add 3008 l, m_adds (by omega), ob_i, rw_A, rw_rw, g _ s1, m_restsOn hp hF, ob_i, rw_A, rw_n (by decide), a5, g13, g14, g12, m_puts2 hp, ob_i, lt1_i, s2.2.2.2.1, ep, tnn (by omega)]
        have s3 := qS_31 (m' := mput m p ((Lm u r).2.2.2.2 l) ((Lm u r).2.2.1 l)) s2
        refine ⟨_, rfl, ?_⟩
        rw [show rF (rw_ (rw_ (rw_ v 34 (addB (clA A) (3008 + l))) 33 (stR R (addB (clA A) (3008 + l)) p)) 31 (mput m p ((Lm u r).2.2.2.2 l) ((Lm u r).2.2.1 l))) 0 42 = nI l from s3.2.2.1, nI_1]
        exact qS_42 s3
      · rw [if_neg q2]
        exact ⟨fun z => absurd z.2.2 q2, fun _ => rfl⟩
    · rw [if_neg q1]
      exact ⟨fun z => absurd z.2.1 q1, fun _ => rfl⟩
  · rw [if_pos (nI_le (by omega) (by omega))]
    exact ⟨fun z => absurd z.1 q0, fun _ => rfl⟩
def rpk (L : Lg) (n : Nat) : Nat → Row → Nat → (Nat → Int32) → (Nat → Int32) → (Nat → Int32) × (Nat → Int32)
  | 0, _, _, R, A => (R, A)
  | f + 1, m, l, R, A => if l < n ∧ L.2.1 l = 2 ∧ L.1 l = m 133 then rpk L n f (mput m (tn (L.2.2.2.1 l)) (L.2.2.2.2 l) (L.2.2.1 l)) (l + 1) (stR R (addB (clA A) (3008 + l)) (tn (L.2.2.2.1 l))) (addB (clA A) (3008 + l)) else (R, A)
theorem m_restPokes {F r n : Nat} {u : rg_U} (hr : r < 5) (hn : u.2.1 15 r = nI n) (hn8 : n ≤ 800) (hL : okL (Lm u r) n) (hF : 10000 < F) : ∀ (f l : Nat) (m : Row) (R A : Nat → Int32) (v : rg_U), qS u v r m l R A → n - l = f → l ≤ n → ∀ G, f < G → ∃ w, lp (fun (s : rg_U) => g_X10_restPokes_l0 F s) G v = some w ∧ qS u w r (spk (Lm u r) n m l).1 (spk (Lm u r) n m l).2 (rpk (Lm u r) n f m l R A).1 (rpk (Lm u r) n f m l R A).2
  | f, l, m, R, A, v, h, hf, hl, 0, hG => by omega
  | f, l, m, R, A, v, h, hf, hl, G + 1, hG => by
    obtain ⟨p1, p2⟩ := m_restPoke (F := F) hr hn hn8 hL h hl hF
    by_cases q : l < n ∧ (Lm u r).2.1 l = 2 ∧ (Lm u r).1 l = m 133
    · obtain ⟨w, e1, e2⟩ := p1 q
      rw [lp_l (body := fun (s : rg_U) => g_X10_restPokes_l0 F s) e1, spk_yes q]
      match f, hf, hG with
      | 0, hf, hG => omega
      | f + 1, hf, hG =>
      unfold rpk
      rw [if_pos q]
      exact m_restPokes hr hn hn8 hL hF f (l + 1) _ _ _ w e2 (by omega) (by omega) G (by omega)
    · rw [lp_r (body := fun (s : rg_U) => g_X10_restPokes_l0 F s) (p2 q), spk_no q]
      refine ⟨v, rfl, ?_⟩
      have : rpk (Lm u r) n f m l R A = (R, A) := by
        cases f with
        | zero => rfl
        | succ f => unfold rpk; rw [if_neg q]
      rw [this]
      exact h
end W_42
