/-! align of the reference -/
/-- the calls i and j are alike -/
def E35 (u : rg_U) (r1 r2 i j : Nat) : Bool := decide (u.2.1 17 (100 * r1 + i) = u.2.1 17 (100 * r2 + j)) && decide (u.2.1 18 (100 * r1 + i) = u.2.1 18 (100 * r2 + j))
theorem m_areLike {F r1 r2 i j : Nat} {u : rg_U} (h1 : r1 < 5) (h2 : r2 < 5) (hi : i < 100) (hj : j < 100) (e1 : u.1 47 = nI r1) (e2 : u.1 48 = nI r2) : g_X10_areLike F (nI i) (nI j) u = some (if E35 u r1 r2 i j then 1 else 0) := by
  unfold g_X10_areLike E35
  rw [show rF u 0 47 = nI r1 from e1, show rF u 0 48 = nI r2 from e2, show (100 : Int32) * nI r1 + nI i = nI (100 * r1 + i) by rw [show (100 : Int32) * nI r1 = nI (100 * r1) from pk_mul 100 _, nI_add], show (100 : Int32) * nI r2 + nI j = nI (100 * r2 + j) by rw [show (100 : Int32) * nI r2 = nI (100 * r2) from pk_mul 100 _, nI_add], ck_t (inb_nI (by omega) (by decide)), ck_t (inb_nI (by omega) (by decide)), ck_t (inb_nI (by omega) (by decide)), ck_t (inb_nI (by omega) (by decide)), rA_nI (by omega), rA_nI (by omega), rA_nI (by omega), rA_nI (by omega)]
  by_cases q : u.2.1 17 (100 * r1 + i) = u.2.1 17 (100 * r2 + j)
  · rw [if_pos q]
    by_cases z : u.2.1 18 (100 * r1 + i) = u.2.1 18 (100 * r2 + j)
    · rw [if_pos z, if_pos (by simp [q, z])]
    · rw [if_neg z, if_neg (by simp [z])]
  · rw [if_neg q, if_neg (by simp [q])]
/-- the longest of what goes in pairs, with a and b left -/
def lrow (E : Nat → Bool) (D : Nat) (f : Nat → Nat) : Nat → Nat
  | 0 => 0
  | b + 1 => max (max (f (b + 1)) (lrow E D f b)) (if E (D - (b + 1)) then 1 + f b else 0)
def lcs (E : Nat → Nat → Bool) (C D : Nat) : Nat → Nat → Nat
  | 0 => fun _ => 0
  | a + 1 => lrow (E (C - (a + 1))) D (lcs E C D a)
theorem lrow_le {E : Nat → Bool} {D n : Nat} {f : Nat → Nat} (h : ∀ b, f b ≤ n) : ∀ b, lrow E D f b ≤ n + 1
  | 0 => Nat.zero_le _
  | b + 1 => by
    have h1 := h (b + 1)
    have h2 := lrow_le (E := E) (D := D) h b
    have h3 := h b
    show max (max (f (b + 1)) (lrow E D f b)) (if E (D - (b + 1)) then 1 + f b else 0) ≤ n + 1
    by_cases q : E (D - (b + 1)) = true
    · rw [if_pos q]; omega
    · rw [if_neg q]; omega
theorem lcs_le {E : Nat → Nat → Bool} {C D : Nat} : ∀ a b, lcs E C D a b ≤ a
  | 0, b => Nat.le_refl _
  | a + 1, b => lrow_le (lcs_le a) b
theorem lcs_0 {E : Nat → Nat → Bool} {C D a : Nat} : lcs E C D a 0 = 0 := by cases a <;> rfl
def lL (E : Nat → Nat → Bool) (C D i j : Nat) : Nat := lcs E C D (C - i) (D - j)
theorem lL_le {E : Nat → Nat → Bool} {C D i j : Nat} : lL E C D i j ≤ C := Nat.le_trans (lcs_le _ _) (Nat.sub_le _ _)
theorem lL_C {E : Nat → Nat → Bool} {C D i j : Nat} (h : C ≤ i) : lL E C D i j = 0 := by
  unfold lL
  rw [show C - i = 0 by omega]
  rfl
theorem lL_D {E : Nat → Nat → Bool} {C D i j : Nat} (h : D ≤ j) : lL E C D i j = 0 := by
  unfold lL
  rw [show D - j = 0 by omega]
  exact lcs_0
theorem lL_s {E : Nat → Nat → Bool} {C D i j : Nat} (h1 : i < C) (h2 : j < D) : lL E C D i j = max (max (lL E C D (i + 1) j) (lL E C D i (j + 1))) (if E i j then 1 + lL E C D (i + 1) (j + 1) else 0) := by
  obtain ⟨a, ea⟩ : ∃ a, C - i = a + 1 := ⟨C - i - 1, by omega⟩
  obtain ⟨b, eb⟩ : ∃ b, D - j = b + 1 := ⟨D - j - 1, by omega⟩
  unfold lL
  rw [ea, eb, show C - (i + 1) = a by omega, show D - (j + 1) = b by omega]
  show max (max (lcs E C D a (b + 1)) (lcs E C D (a + 1) b)) (if E (C - (a + 1)) (D - (b + 1)) then 1 + lcs E C D a b else 0) = _
  rw [show C - (a + 1) = i by omega, show D - (b + 1) = j by omega]
def sm35 (u v : rg_U) : Prop := v.1 = u.1 ∧ ∀ j, j ≠ 35 → v.2.1 j = u.2.1 j
theorem E35_s {u v : rg_U} (h : sm35 u v) : E35 v = E35 u := by
  funext r1 r2 i j
  unfold E35
  rw [h.2 17 (by decide), h.2 18 (by decide)]
def pT (v : rg_U) (L : Nat → Nat → Nat) (C D i m : Nat) : Prop := (∀ i' j', i < i' → i' ≤ C → j' ≤ D → v.2.1 35 (101 * i' + j') = nI (L i' j')) ∧ ∀ j', m ≤ j' → j' ≤ D → v.2.1 35 (101 * i + j') = nI (L i j')
theorem m_cell {F r1 r2 C D i j : Nat} {u v : rg_U} (h1 : r1 < 5) (h2 : r2 < 5) (e1 : u.1 47 = nI r1) (e2 : u.1 48 = nI r2) (hC : C ≤ 100) (hD : D ≤ 100) (hv : sm35 u v) (hi : i ≤ C) (hj : j ≤ D) (hT : pT v (lL (E35 u r1 r2) C D) C D i (j + 1)) : ∃ w, g_X10_laysPairs_l61 F (nI C) (nI D) (nI i) (nI j) v = some (.inl (nI j + (-1), w)) ∧ sm35 u w ∧ pT w (lL (E35 u r1 r2) C D) C D i j := by
  have hl : ∀ a b, lL (E35 u r1 r2) C D a b ≤ 100 := fun a b => Nat.le_trans lL_le hC
  have fin : g_X10_laysPairs_l61 F (nI C) (nI D) (nI i) (nI j) v = g_X10_laysPairs_j171 F (nI C) (nI D) (nI i) (nI j) (nI (lL (E35 u r1 r2) C D i j)) v := by
    unfold g_X10_laysPairs_l61
    rw [if_neg (show ¬ nI j < 0 from nI_nlt (a := j) (b := 0) (by omega) (by omega))]
    have e0 : (101 : Int32) * (nI i + 1) + nI j = nI (101 * (i + 1) + j) := by rw [nI_1, show (101 : Int32) * nI (i + 1) = nI (101 * (i + 1)) from pk_mul 101 _, nI_add]
    have e01 : (101 : Int32) * (nI i + 1) + nI j + 1 = nI (101 * (i + 1) + (j + 1)) := by rw [e0, nI_1, Nat.add_assoc]
    have e10 : (101 : Int32) * nI i + nI j + 1 = nI (101 * i + (j + 1)) := by rw [show (101 : Int32) * nI i = nI (101 * i) from pk_mul 101 _, nI_add, nI_1, Nat.add_assoc]
    by_cases qi : C ≤ i
    · rw [if_pos (nI_le qi (by omega)), lL_C qi]
      have k1 : g_X10_laysPairs_j121 F (nI C) (nI D) (nI i) (nI j) (nI 0) v = g_X10_laysPairs_j171 F (nI C) (nI D) (nI i) (nI j) (nI 0) v := by
        unfold g_X10_laysPairs_j121
        rw [if_pos (nI_le qi (by omega))]
      unfold g_X10_laysPairs_j92
      by_cases qj : D ≤ j
      · rw [if_pos (nI_le qj (by omega))]
        exact k1
      · rw [if_neg (nI_ge (by omega) (by omega)), e10, ck_t (inb_nI (by omega) (by decide)), rA_nI (by omega), hT.2 (j + 1) (Nat.le_refl _) (by omega), lL_C qi, show imax 0 (nI 0) = nI 0 from by decide]
        exact k1
    · rw [if_neg (nI_ge (by omega) (by omega)), e0, ck_t (inb_nI (by omega) (by decide)), rA_nI (by omega), hT.1 (i + 1) j (by omega) (by omega) hj]
      unfold g_X10_laysPairs_j92
      by_cases qj : D ≤ j
      · rw [if_pos (nI_le qj (by omega)), lL_D qj, lL_D qj]
        unfold g_X10_laysPairs_j121
        rw [if_neg (nI_ge (by omega) (by omega)), if_pos (nI_le qj (by omega))]
      · rw [if_neg (nI_ge (by omega) (by omega)), e10, ck_t (inb_nI (by omega) (by decide)), rA_nI (by omega), hT.2 (j + 1) (Nat.le_refl _) (by omega), imax_nI (by have := hl (i + 1) j; omega) (by have := hl i (j + 1); omega)]
        unfold g_X10_laysPairs_j121
        rw [if_neg (nI_ge (by omega) (by omega)), if_neg (nI_ge (by omega) (by omega)), m_areLike (F := F) h1 h2 (by omega) (by omega) (by rw [hv.1]; exact e1) (by rw [hv.1]; exact e2), ob_i, E35_s hv, lL_s (i := i) (j := j) (by omega) (by omega)]
        by_cases z : E35 u r1 r2 i j = true
        · rw [if_pos z, if_neg one_n0, if_pos z, e01, ck_t (inb_nI (by omega) (by decide)), rA_nI (by omega), hT.1 (i + 1) (j + 1) (by omega) (by omega) (by omega), show (1 : Int32) + nI (lL (E35 u r1 r2) C D (i + 1) (j + 1)) = nI (1 + lL (E35 u r1 r2) C D (i + 1) (j + 1)) from nI_add 1 _, imax_nI (by have := hl (i + 1) j; have := hl i (j + 1); omega) (by have := hl (i + 1) (j + 1); omega)]
        · rw [if_neg z, if_pos rfl, if_neg z, Nat.max_eq_left (Nat.zero_le _)]
  rw [fin]
  unfold g_X10_laysPairs_j171
  rw [show (101 : Int32) * nI i + nI j = nI (101 * i + j) by rw [show (101 : Int32) * nI i = nI (101 * i) from pk_mul 101 _, nI_add], ck_t (inb_nI (by omega) (by decide)), lt1_i, sA_nI (by omega)]
  refine ⟨_, rfl, ⟨hv.1, fun k hk => by funext n; rw [R_at, if_neg (fun z => hk z.1), hv.2 k hk]⟩, fun i' j' a1 a2 a3 => ?_, fun j' a1 a2 => ?_⟩
  · rw [R_at, if_neg (by omega)]
    exact hT.1 i' j' a1 a2 a3
  · rw [R_at]
    by_cases z : j' = j
    · rw [if_pos ⟨rfl, by omega⟩, z]
    · rw [if_neg (by omega)]
      exact hT.2 j' (by omega) a2
theorem m_rowl {F r1 r2 C D i : Nat} {u : rg_U} (h1 : r1 < 5) (h2 : r2 < 5) (e1 : u.1 47 = nI r1) (e2 : u.1 48 = nI r2) (hC : C ≤ 100) (hD : D ≤ 100) (hi : i ≤ C) : ∀ (m : Nat) (v : rg_U), m ≤ D + 1 → sm35 u v → pT v (lL (E35 u r1 r2) C D) C D i m → ∀ G, m < G → ∃ w, lp (fun (s : Int32 × rg_U) => g_X10_laysPairs_l61 F (nI C) (nI D) (nI i) s.1 s.2) G (nI m + (-1), v) = some w ∧ sm35 u w ∧ pT w (lL (E35 u r1 r2) C D) C D i 0
  | m, v, hm, hv, hT, 0, hG => by omega
  | 0, v, hm, hv, hT, G + 1, hG => by
    refine ⟨v, lp_r ?_, hv, hT⟩
    unfold g_X10_laysPairs_l61
    dsimp only
    rw [if_pos (by decide)]
  | m + 1, v, hm, hv, hT, G + 1, hG => by
    obtain ⟨w, g1, g2, g3⟩ := m_cell (F := F) (j := m) h1 h2 e1 e2 hC hD hv hi (by omega) hT
    have e : nI (m + 1) + (-1) = nI m := by rw [← nI_1, Int32.add_assoc]; exact Int32.add_zero _
    rw [e, lp_l (body := fun (s : Int32 × rg_U) => g_X10_laysPairs_l61 F (nI C) (nI D) (nI i) s.1 s.2) (s := (nI m, v)) g1]
    exact m_rowl h1 h2 e1 e2 hC hD hi m w (by omega) g2 g3 G (by omega)
theorem m_rowsl {F r1 r2 C D : Nat} {u : rg_U} (h1 : r1 < 5) (h2 : r2 < 5) (e1 : u.1 47 = nI r1) (e2 : u.1 48 = nI r2) (hC : C ≤ 100) (hD : D ≤ 100) (hF : 10000 < F) : ∀ (m : Nat) (v : rg_U), m ≤ C + 1 → sm35 u v → (∀ i' j', m ≤ i' → i' ≤ C → j' ≤ D → v.2.1 35 (101 * i' + j') = nI (lL (E35 u r1 r2) C D i' j')) → ∀ G, m < G → ∃ w, lp (fun (s : Int32 × rg_U) => g_X10_laysPairs_l52 F (nI C) (nI D) s.1 s.2) G (nI m + (-1), v) = some w ∧ sm35 u w ∧ ∀ i' j', i' ≤ C → j' ≤ D → w.2.1 35 (101 * i' + j') = nI (lL (E35 u r1 r2) C D i' j')
  | m, v, hm, hv, hT, 0, hG => by omega
  | 0, v, hm, hv, hT, G + 1, hG => by
    refine ⟨v, lp_r ?_, hv, fun i' j' => hT i' j' (Nat.zero_le _)⟩
    unfold g_X10_laysPairs_l52
    dsimp only
    rw [if_pos (by decide)]
  | m + 1, v, hm, hv, hT, G + 1, hG => by
    obtain ⟨w, g1, g2, g3⟩ := m_rowl (F := F) (i := m) h1 h2 e1 e2 hC hD (by omega) (D + 1) v (Nat.le_refl _) hv ⟨fun i' j' a1 a2 a3 => hT i' j' a1 a2 a3, fun j' a1 a2 => by omega⟩ F (by omega)
    have e : ∀ n, nI (n + 1) + (-1) = nI n := fun n => by rw [← nI_1, Int32.add_assoc]; exact Int32.add_zero _
    rw [e D] at g1
    have hb : g_X10_laysPairs_l52 F (nI C) (nI D) (nI m) v = some (.inl (nI m + (-1), w)) := by
      unfold g_X10_laysPairs_l52
      rw [if_neg (show ¬ nI m < 0 from nI_nlt (a := m) (b := 0) (by omega) (by omega)), g1, ob_i]
    rw [e, lp_l (body := fun (s : Int32 × rg_U) => g_X10_laysPairs_l52 F (nI C) (nI D) s.1 s.2) (s := (nI m, v)) hb]
    refine m_rowsl h1 h2 e1 e2 hC hD hF m w (by omega) g2 (fun i' j' a1 a2 a3 => ?_) G (by omega)
    by_cases z : i' = m
    · rw [z]; exact g3.2 j' (Nat.zero_le _) a3
    · exact g3.1 i' j' (by omega) a2 a3
