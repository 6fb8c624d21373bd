/-! the class: back, its log and its calls -/
theorem cI_y {L : Lg} {k : Nat} (h : L.2.1 k = 0) : cI L (k + 1) = cI L k + 1 := by
  show cI L k + (if L.2.1 k = 0 then 1 else 0) = _
  rw [if_pos h]
theorem cI_n {L : Lg} {k : Nat} (h : ¬ L.2.1 k = 0) : cI L (k + 1) = cI L k := by
  show cI L k + (if L.2.1 k = 0 then 1 else 0) = _
  rw [if_neg h, Nat.add_zero]
theorem cI_up {L : Lg} {M : Nat} : ∀ n, M ≤ n → cI L M ≤ cI L n
  | 0, h => by rw [show M = 0 by omega]; exact Nat.le_refl _
  | n + 1, h => by
    rcases Nat.lt_or_ge n M with y | y
    · rw [show M = n + 1 by omega]; exact Nat.le_refl _
    · have := cI_up (L := L) n y
      by_cases q : L.2.1 n = 0
      · rw [cI_y q]; omega
      · rw [cI_n q]; exact this
section XX
variable {F o n T t W A0 : Nat} {L : Lg} {u : rg_U} {q : Nat → Nat}
theorem x3_has {i : Nat} (hn : rF u o 5 = nI n) (h8 : n ≤ 800) (hi : i < n) : g_X3_has F o (nI i) u = some 1 := by
  unfold g_X3_has
  rw [if_neg (nI_pos (by omega)), hn, if_neg (nI_ge hi (by omega)), if_neg (show ¬ (800 : Int32) ≤ nI i from nI_ge (a := i) (b := 800) (by omega) (by decide))]
theorem x3_behind {i : Nat} {g s : Int32} {q : Nat} (hn : rF u o 5 = nI n) (h8 : n ≤ 800) (hi : i < n) (e1 : u.2.1 (o + 1) i = nI q) (e2 : u.2.1 (o + 2) i = g) (hq : q < 2 ^ 31) (ht : t < 2 ^ 31) : g_X3_isBehind F o (nI i) (nI t) u = some (if q < t + (if g = 2 then 1 else 0) then 0 else 1) := by
  unfold g_X3_isBehind
  rw [x3_has hn h8 hi, ob_i, if_neg (by decide), ck_t (inb_nI (by omega) (by decide)), rA_nI (by omega), rA_nI (by omega), e1, e2]
  by_cases z : g = 2
  · rw [if_pos z, if_pos z, ck_t (inb_nI (by omega) (by decide))]
    by_cases y : q ≤ t
    · rw [if_pos (nI_le y ht), if_pos (by omega)]
    · rw [if_neg (nI_ge (by omega) hq), if_neg (by omega)]
  · rw [if_neg z, if_neg z, ck_t (inb_nI (by omega) (by decide))]
    by_cases y : q < t
    · rw [if_pos (nI_lt y ht), if_pos (by omega)]
    · rw [if_neg (nI_nlt (by omega) hq), if_neg (by omega)]
/-- the log goes back to its first M0 entries; inputs wait again -/
theorem c_dropLog {M0 : Nat} (hL : LG u o n L) (h8 : n ≤ 800) (hM : M0 ≤ n) (ho : 116 ≤ o) (hq : ∀ k, k < n → ∃ q, q < 2 ^ 31 ∧ L.1 k = nI q ∧ (k < M0 ↔ q < t + (if L.2.1 k = 2 then 1 else 0))) (ht : t < 2 ^ 31) (hO : okO9 u A0 W) (hW : W + cI L n ≤ 900) (hF : 10000 < F) : ∃ w A, g_X3_dropBehind F (o + 6) (nI t) u = some w ∧ w.2.2 = u.2.2 ∧ (∀ j, j ≠ 7 → w.2.1 j = u.2.1 j) ∧ (∀ k, k ≠ 601 → k ≠ 602 → k ≠ 100 * (o + 6) + 5 → w.1 k = u.1 k) ∧ rF w (o + 6) 5 = nI M0 ∧ okO9 w A (W + (cI L n - cI L M0)) ∧ (∀ i, i < W → wt9 w A (i + (cI L n - cI L M0)) = wt9 u A0 i) ∧ ∀ k, M0 ≤ k → k < n → L.2.1 k = 0 → wt9 w A (cI L k - cI L M0) = L.2.2.1 k := by
  have key : Tt (g_X3_dropBehind F (o + 6) (nI t) u) (fun w => ∃ A, w.2.2 = u.2.2 ∧ (∀ j, j ≠ 7 → w.2.1 j = u.2.1 j) ∧ (∀ k, k ≠ 601 → k ≠ 602 → k ≠ 100 * (o + 6) + 5 → w.1 k = u.1 k) ∧ rF w (o + 6) 5 = nI M0 ∧ okO9 w A (W + (cI L n - cI L M0)) ∧ (∀ i, i < W → wt9 w A (i + (cI L n - cI L M0)) = wt9 u A0 i) ∧ ∀ k, M0 ≤ k → k < n → L.2.1 k = 0 → wt9 w A (cI L k - cI L M0) = L.2.2.1 k) := by
    unfold g_X3_dropBehind
    rw [hL.1]
    refine tt_b (tt_lp (I := fun s => ∃ M A, M0 ≤ M ∧ M ≤ n ∧ s.1 = nI M - 1 ∧ s.2.2.2 = u.2.2 ∧ (∀ j, j ≠ 7 → s.2.2.1 j = u.2.1 j) ∧ (∀ k, k ≠ 601 → k ≠ 602 → k ≠ 100 * (o + 6) + 5 → s.2.1 k = u.1 k) ∧ rF s.2 (o + 6) 5 = nI M ∧ okO9 s.2 A (W + (cI L n - cI L M)) ∧ (∀ i, i < W → wt9 s.2 A (i + (cI L n - cI L M)) = wt9 u A0 i) ∧ ∀ k, M ≤ k → k < n → L.2.1 k = 0 → wt9 s.2 A (cI L k - cI L M) = L.2.2.1 k) (m := fun s => (s.1.toInt + 1).toNat) (P := fun w => ∃ A, w.2.2 = u.2.2 ∧ (∀ j, j ≠ 7 → w.2.1 j = u.2.1 j) ∧ (∀ k, k ≠ 601 → k ≠ 602 → k ≠ 100 * (o + 6) + 5 → w.1 k = u.1 k) ∧ rF w (o + 6) 5 = nI M0 ∧ okO9 w A (W + (cI L n - cI L M0)) ∧ (∀ i, i < W → wt9 w A (i + (cI L n - cI L M0)) = wt9 u A0 i) ∧ ∀ k, M0 ≤ k → k < n → L.2.1 k = 0 → wt9 w A (cI L k - cI L M0) = L.2.2.1 k) ?_ F _ ?_ ?_) (fun _ z => z)
    · rintro ⟨a, w⟩ ⟨M, A, h1, h2, h3, h4, h5, h6, h7, h9, h10, h11⟩
      dsimp only at h3 h4 h5 h6 h7 h9 h10 h11 ⊢
      unfold g_X3_dropBehind_l7 g_X3_dropBehind_j39
      cases M with
      | zero =>
        have e0 : M0 = 0 := by omega
        subst e0
        rw [if_pos (by rw [h3]; decide)]
        exact tt_r ⟨A, h4, h5, h6, h7, h9, h10, h11⟩
      | succ M =>
        have e1 : a = nI M := by rw [h3]; exact nI_pred M
        subst e1
        obtain ⟨q, hq1, hq2, hq3⟩ := hq M (by omega)
        obtain ⟨g1, g2, g3, -, -⟩ := hL.2 M (by omega)
        have ea : ∀ j, o + 7 ≤ j → w.2.1 j = u.2.1 j := fun j hj => h5 j (by omega)
        rw [if_neg (nI_pos (by omega)), x3_behind (g := L.2.1 M) (q := q) (s := 0) h7 (by omega) (by omega) (by rw [show o + 6 + 1 = o + 7 from rfl, ea _ (by omega), g1, hq2]) (by rw [show o + 6 + 2 = o + 8 from rfl, ea _ (by omega), g2]) hq1 ht, ob_i]
        by_cases z : M < M0
        · have em : M0 = M + 1 := by omega
          subst em
          rw [if_pos (hq3.mp z), if_pos rfl]
          exact tt_r ⟨A, h4, h5, h6, h7, h9, h10, h11⟩
        · rw [if_neg (fun y => z (hq3.mpr y)), if_neg (by decide), ck_t (inb_nI (by omega) (by decide)), rA_nI (by omega), show o + 6 + 2 = o + 8 from rfl, ea (o + 8) (by omega), g2]
          by_cases y : L.2.1 M = 0
          · have hcm := cI_y y
            have hup := cI_up (L := L) (M := M + 1) n (by omega)
            have hup0 := cI_up (L := L) (M := M0) M (by omega)
            rw [if_pos y, ck_t (inb_nI (by omega) (by decide)), rA_nI (by omega), show o + 6 + 3 = o + 9 from rfl, ea (o + 9) (by omega), g3]
            obtain ⟨w', e2, w1, w2, w3, w4⟩ := c_addFirst (F := F) (x := L.2.2.1 M) h9 (by omega)
            rw [e2, ob_i, lt1_i]
            refine tt_l ⟨⟨M, (A + 899) % 900, by omega, by omega, ?_, ?_, fun j hj => ?_, fun k k1 k2 k3 => ?_, sF_y, ⟨?_, ?_, w1.2.2.1, by omega⟩, fun i hi => ?_, fun k k1 k2 k3 => ?_⟩, ms_d1 (by omega)⟩
            · dsimp only
              rw [Int32.sub_eq_add_neg]
            · rw [w4]; exact h4
            · rw [sF_A, w4]
              show (rg_R (sF w 6 1 _) 7 _ _).2.1 j = _
              rw [R_n hj]
              exact h5 j hj
            · rw [sF_n k3, w4, sF_n (by omega)]
              show (sF w 6 1 _).1 k = _
              rw [sF_n (by omega)]
              exact h6 k k1 k2 k3
            · show (sF w' (o + 6) 5 (nI M)).1 (100 * 6 + 1) = _
              rw [sF_n (by omega)]
              exact w1.1
            · show (sF w' (o + 6) 5 (nI M)).1 (100 * 6 + 2) = _
              rw [sF_n (by omega), show W + (cI L n - cI L M) = W + (cI L n - cI L (M + 1)) + 1 by omega]
              exact w1.2.1
            · show wt9 w' ((A + 899) % 900) (i + (cI L n - cI L M)) = _
              rw [show i + (cI L n - cI L M) = i + (cI L n - cI L (M + 1)) + 1 by omega, w3 _ (by omega)]
              exact h10 i hi
            · show wt9 w' ((A + 899) % 900) (cI L k - cI L M) = _
              rcases Nat.lt_or_ge M k with x | x
              · have hk1 := cI_up (L := L) (M := M + 1) k (by omega)
                have hk2 := cI_up (L := L) (M := k + 1) n (by omega)
                have hk3 := cI_y k3
                rw [show cI L k - cI L M = (cI L k - cI L (M + 1)) + 1 by omega, w3 _ (by omega)]
                exact h11 k (by omega) k2 k3
              · rw [show k = M by omega, Nat.sub_self]
                exact w2
          · have hcm := cI_n y
            rw [if_neg y, lt1_i]
            rw [hcm] at h9 h10 h11
            refine tt_l ⟨⟨M, A, by omega, by omega, ?_, h4, fun j hj => h5 j hj, fun k k1 k2 k3 => ?_, sF_y, ⟨?_, ?_, h9.2.2⟩, h10, fun k k1 k2 k3 => ?_⟩, ms_d1 (by omega)⟩
            · dsimp only
              rw [Int32.sub_eq_add_neg]
            · rw [sF_n k3]; exact h6 k k1 k2 k3
            · show (sF w (o + 6) 5 (nI M)).1 (100 * 6 + 1) = _
              rw [sF_n (by omega)]
              exact h9.1
            · show (sF w (o + 6) 5 (nI M)).1 (100 * 6 + 2) = _
              rw [sF_n (by omega)]
              exact h9.2.1
            · rcases Nat.lt_or_ge M k with x | x
              · exact h11 k (by omega) k2 k3
              · rw [show k = M by omega] at k3
                exact absurd k3 y
    · exact ms_i (by omega) (by omega)
    · exact ⟨n, A0, hM, Nat.le_refl _, rfl, rfl, fun _ _ => rfl, fun _ _ _ _ => rfl, hL.1, by rw [Nat.sub_self]; exact hO, fun i hi => by rw [Nat.sub_self]; rfl, fun k k1 k2 => by omega⟩
  obtain ⟨w, e, A, r⟩ := key
  exact ⟨w, A, e, r⟩
/-- calls from t on go -/
theorem c_dropFrom {C : Nat} {ct : Nat → Nat} (hC : rF u o 3 = nI C) (hC1 : C ≤ 100) (hct : ∀ i, i < C → u.2.1 (o + 1) i = nI (ct i) ∧ ct i < 2 ^ 31) (hup : ∀ i j, i < j → j < C → ct i < ct j) (ht : t < 2 ^ 31) (hF : 10000 < F) : ∃ w C1, g_X1_dropFrom F o (nI t) u = some w ∧ w.2 = u.2 ∧ (∀ k, k ≠ 100 * o + 3 → w.1 k = u.1 k) ∧ rF w o 3 = nI C1 ∧ C1 ≤ C ∧ (C1 = 0 ∨ ct (C1 - 1) < t) ∧ ∀ i, C1 ≤ i → i < C → t ≤ ct i := by
  have key : Tt (g_X1_dropFrom F o (nI t) u) (fun w => w.2 = u.2 ∧ (∀ k, k ≠ 100 * o + 3 → w.1 k = u.1 k) ∧ ∃ C1, rF w o 3 = nI C1 ∧ C1 ≤ C ∧ (C1 = 0 ∨ ct (C1 - 1) < t) ∧ ∀ i, C1 ≤ i → i < C → t ≤ ct i) := by
    unfold g_X1_dropFrom
    rw [hC]
    refine tt_b (tt_lp (I := fun s => s.2.2 = u.2 ∧ (∀ k, k ≠ 100 * o + 3 → s.2.1 k = u.1 k) ∧ ∃ M, M ≤ C ∧ s.1 = nI M - 1 ∧ rF s.2 o 3 = nI M ∧ ∀ i, M ≤ i → i < C → t ≤ ct i) (m := fun s => (s.1.toInt + 1).toNat) (P := fun w => w.2 = u.2 ∧ (∀ k, k ≠ 100 * o + 3 → w.1 k = u.1 k) ∧ ∃ C1, rF w o 3 = nI C1 ∧ C1 ≤ C ∧ (C1 = 0 ∨ ct (C1 - 1) < t) ∧ ∀ i, C1 ≤ i → i < C → t ≤ ct i) ?_ F _ ?_ ?_) (fun _ z => z)
    · rintro ⟨a, w⟩ ⟨h5, h6, M, h7, h8, h9, h10⟩
      dsimp only at h5 h6 h8 h9 ⊢
      unfold g_X1_dropFrom_l7
      cases M with
      | zero =>
        rw [if_pos (by rw [h8]; decide)]
        exact tt_r ⟨h5, h6, 0, h9, h7, Or.inl rfl, h10⟩
      | succ M =>
        have e1 : a = nI M := by rw [h8]; exact nI_pred M
        subst e1
        obtain ⟨c1, c2⟩ := hct M (by omega)
        have hhas : g_X1_has F o (nI M) w = some 1 := by
          unfold g_X1_has
          rw [if_neg (nI_pos (by omega)), h9, if_neg (nI_ge (by omega) (by omega)), if_neg (show ¬ (100 : Int32) ≤ nI M from nI_ge (a := M) (b := 100) (by omega) (by decide))]
        rw [if_neg (nI_pos (by omega)), hhas, ob_i, if_neg (by decide), ck_t (inb_nI (by omega) (by decide)), rA_nI (by omega), h5, c1]
        by_cases z : ct M < t
        · rw [if_pos (nI_lt z ht)]
          exact tt_r ⟨h5, h6, M + 1, h9, h7, Or.inr z, h10⟩
        · rw [if_neg (nI_nlt (by omega) c2), lt1_i]
          refine tt_l ⟨⟨h5, fun k hk => by rw [sF_n hk]; exact h6 k hk, M, by omega, ?_, sF_y, fun i i1 i2 => ?_⟩, ms_d1 (by omega)⟩
          · dsimp only
            rw [Int32.sub_eq_add_neg]
          · rcases Nat.lt_or_ge M i with y | y
            · exact h10 i (by omega) i2
            · rw [show i = M by omega]; omega
    · exact ms_i (by omega) (by omega)
    · exact ⟨rfl, fun _ _ => rfl, C, Nat.le_refl _, rfl, hC, fun i i1 i2 => by omega⟩
  obtain ⟨w, e, w1, w2, C1, w3⟩ := key
  exact ⟨w, C1, e, w1, w2, w3⟩
end XX
