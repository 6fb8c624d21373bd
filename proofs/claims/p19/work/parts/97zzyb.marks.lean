/-! the class: marks -/
def MkO (u w : rg_U) : Prop := w.1 = u.1 ∧ w.2.2 = u.2.2 ∧ ∀ j, j ≠ 115 → w.2.1 j = u.2.1 j
/-- what a put has of its own -/
def ownK (u : rg_U) (q n k : Nat) : Prop := (k < 3008 ∧ u.2.1 (q + 7) n = nI k) ∨ ∃ j, j < 800 ∧ u.2.1 (q + 8) n = nI j ∧ k = 3008 + j
abbrev inU (u : rg_U) (q N : Nat) (x : Int32) (k : Nat) : Prop := inS (u.2.1 (q + 7)) (u.2.1 (q + 8)) (u.2.1 (q + 9)) (u.2.1 (q + 10)) N x k
abbrev RsU (u : rg_U) (q N n k : Nat) : Prop := RsT (u.2.1 (q + 7)) (u.2.1 (q + 8)) (u.2.1 (q + 9)) (u.2.1 (q + 10)) N n k
section ZC
variable {F q N : Nat} {u u0 w : rg_U} {x : Int32}
theorem MK_r : MkO u u := ⟨rfl, rfl, fun _ _ => rfl⟩
theorem MK_t {v : rg_U} (h : MkO u w) (h2 : MkO w v) : MkO u v := ⟨h2.1.trans h.1, h2.2.1.trans h.2.1, fun j hj => (h2.2.2 j hj).trans (h.2.2 j hj)⟩
theorem MK_R {n : Nat} {v : Int32} (h : MkO u0 u) : MkO u0 (rg_R u 115 n v) := ⟨h.1, h.2.1, fun j hj => (R_n hj).trans (h.2.2 j hj)⟩
theorem MK_N (h : MkO u0 u) (hN : rF u0 q 11 = nI N) : rF u q 11 = nI N := by
  unfold rF at *
  rw [h.1]
  exact hN
theorem RsU_at {n k : Nat} (hn : n < N) (hN : N < 2 ^ 31) (ha : isPt n (u.2.1 (q + 9) n)) (hb : isPt n (u.2.1 (q + 10) n)) : RsU u q N n k ↔ (ownK u q n k ∨ inU u q N (u.2.1 (q + 9) n) k ∨ inU u q N (u.2.1 (q + 10) n) k) := by
  unfold RsU inU ownK
  rw [RsT_up (M := n + 1) (Nat.lt_succ_self n) N hn, RsT_s, inS_cut (N := N) (M := n) (M' := n) ha (Nat.le_refl n) (by omega) hN, inS_cut (N := N) (M := n) (M' := n) hb (Nat.le_refl n) (by omega) hN]
  exact or_assoc.symm
theorem c_unmark (hN : rF u q 11 = nI N) (h8 : N ≤ 3800) (hF : 10000 < F) : Tt (g_X6_unmarkAll F q 115 3800 u) (fun w => MkO u w ∧ ∀ n, n < N → w.2.1 115 n = 0) := by
  unfold g_X6_unmarkAll
  refine tt_b (tt_lp (I := fun s => ∃ m, m ≤ N ∧ s.1 = nI m ∧ MkO u s.2 ∧ ∀ n, n < m → s.2.2.1 115 n = 0) (m := fun s => ((N : Int) - s.1.toInt).toNat) (P := fun w => MkO u w ∧ ∀ n, n < N → w.2.1 115 n = 0) ?_ F _ ?_ ?_) (fun _ z => z)
  · rintro ⟨a, v⟩ ⟨m, h1, h2, h3, h4⟩
    dsimp only at h2 h3 h4 ⊢
    subst h2
    unfold g_X6_unmarkAll_l2
    rw [MK_N h3 hN]
    by_cases z : m < N
    · rw [if_neg (nI_ge z (by omega)), if_neg (show ¬ (Int32.ofNat 3800) ≤ nI m from nI_ge (a := m) (b := 3800) (by omega) (by decide)), ck_t (inb_nI (by omega) (by decide)), lt1_i, sZ_nI (by omega), nar0]
      refine tt_l ⟨⟨m + 1, by omega, by show nI m + 1 = nI (m + 1); rw [nI_1], MK_R h3, fun n hn => ?_⟩, ms_u z (by omega)⟩
      show (rg_R v 115 m 0).2.1 115 n = 0
      rw [R_at]
      by_cases y : n = m
      · rw [if_pos ⟨rfl, y⟩]
      · rw [if_neg (fun w => y w.2)]
        exact h4 n (by omega)
    · rw [if_pos (nI_le (by omega) (by omega))]
      exact tt_r ⟨h3, fun n hn => h4 n (by omega)⟩
  · exact ms_0 (by omega)
  · exact ⟨0, Nat.zero_le _, rfl, MK_r, fun n hn => absurd hn (Nat.not_lt_zero n)⟩
theorem c_mark (hN : rF u q 11 = nI N) (h8 : N ≤ 3800) (hx : isPt N x) : Tt (g_X6_mark F q 115 3800 x u) (fun w => MkO u w ∧ ∀ n, n < N → (¬ w.2.1 115 n = 0 ↔ (¬ u.2.1 115 n = 0 ∨ x = nI n))) := by
  unfold g_X6_mark
  rcases hx with rfl | ⟨m, hm, rfl⟩
  · rw [x6_has_n, ob_i, if_pos rfl]
    exact tt_s ⟨MK_r, fun n hn => ⟨Or.inl, fun z => z.elim id (fun e => absurd e.symm (nI_m1 (by omega)))⟩⟩
  · rw [x6_has_y hN h8 hm, ob_i, if_neg (by decide), if_neg (show ¬ (Int32.ofNat 3800) ≤ nI m from nI_ge (a := m) (b := 3800) (by omega) (by decide)), ck_t (inb_nI (by omega) (by decide)), lt1_i, sZ_nI (by omega), nar1]
    refine tt_s ⟨MK_R MK_r, fun n hn => ?_⟩
    rw [R_at]
    by_cases y : n = m
    · rw [if_pos ⟨rfl, y⟩]
      exact ⟨fun _ => Or.inr (by rw [y]), fun _ => by decide⟩
    · rw [if_neg (fun w => y w.2)]
      exact ⟨Or.inl, fun z => z.elim id (fun e => absurd (nI_inj (by omega) (by omega) e).symm y)⟩
theorem c_isM (h8 : N ≤ 3800) (hx : isPt N x) : Tt (g_X9_isMarked F 115 3800 x u) (fun r => ¬ r = 0 ↔ ∃ n, n < N ∧ x = nI n ∧ ¬ u.2.1 115 n = 0) := by
  unfold g_X9_isMarked
  rcases hx with rfl | ⟨m, hm, rfl⟩
  · rw [if_pos (by decide)]
    refine tt_s ⟨fun z => absurd rfl z, ?_⟩
    rintro ⟨n, hn, e, -⟩
    exact absurd e.symm (nI_m1 (by omega))
  · rw [if_neg (nI_pos (by omega)), if_neg (show ¬ (Int32.ofNat 3800) ≤ nI m from nI_ge (a := m) (b := 3800) (by omega) (by decide)), ck_t (inb_nI (by omega) (by decide)), rA_nI (by omega)]
    by_cases y : u.2.1 115 m = 0
    · rw [if_pos y]
      refine tt_s ⟨fun z => absurd rfl z, ?_⟩
      rintro ⟨n, hn, e, w⟩
      rw [← nI_inj (by omega) (by omega) e] at w
      exact absurd y w
    · rw [if_neg y]
      exact tt_s ⟨fun _ => ⟨m, hm, rfl, y⟩, fun _ => by decide⟩
/-- what is marked below x: what x rests on -/
theorem c_markBelow (hN : rF u q 11 = nI N) (h8 : N ≤ 3800) (hq : 115 < q) (hx : isPt N x) (hab : ∀ n, n < N → isPt n (u.2.1 (q + 9) n) ∧ isPt n (u.2.1 (q + 10) n)) (hF : 10000 < F) : Tt (g_X6_markAllBelow F q x 115 3800 u) (fun w => MkO u w ∧ ∀ k, inU u q N x k ↔ ∃ n, n < N ∧ ¬ w.2.1 115 n = 0 ∧ ownK u q n k) := by
  unfold g_X6_markAllBelow
  refine tt_ob (c_unmark hN h8 hF) (fun w1 h1 => tt_ob (c_mark (MK_N h1.1 hN) h8 hx) (fun w2 h2 => tt_b (tt_lp (I := fun s => ∃ M, M ≤ N ∧ s.1 = nI M - 1 ∧ MkO u s.2 ∧ ∀ k, inU u q N x k ↔ ((∃ n, M ≤ n ∧ n < N ∧ ¬ s.2.2.1 115 n = 0 ∧ ownK u q n k) ∨ ∃ n, n < M ∧ ¬ s.2.2.1 115 n = 0 ∧ RsU u q N n k)) (m := fun s => (s.1.toInt + 1).toNat) (P := fun w => MkO u w ∧ ∀ k, inU u q N x k ↔ ∃ n, n < N ∧ ¬ w.2.1 115 n = 0 ∧ ownK u q n k) ?_ F _ ?_ ?_) (fun _ z => z)))
  · rintro ⟨a, v⟩ ⟨M, g1, g2, g3, g4⟩
    dsimp only at g2 g3 g4 ⊢
    unfold g_X6_markAllBelow_l22 g_X6_markAllBelow_j56
    cases M with
    | zero =>
      rw [if_pos (by rw [g2]; decide)]
      refine tt_r ⟨g3, fun k => (g4 k).trans ⟨?_, ?_⟩⟩
      · rintro (⟨n, -, a2, a3, a4⟩ | ⟨n, a1, -⟩)
        · exact ⟨n, a2, a3, a4⟩
        · exact absurd a1 (Nat.not_lt_zero n)
      · rintro ⟨n, a2, a3, a4⟩
        exact Or.inl ⟨n, Nat.zero_le n, a2, a3, a4⟩
    | succ M =>
      have ea : a = nI M := by rw [g2]; exact nI_pred M
      subst ea
      obtain ⟨pa, pb⟩ := hab M (by omega)
      have ev : ∀ j, j ≠ 115 → v.2.1 j = u.2.1 j := g3.2.2
      rw [if_neg (nI_pos (by omega))]
      refine tt_ob (c_isM h8 (Or.inr ⟨M, by omega, rfl⟩)) (fun r hr => ?_)
      by_cases z : r = 0
      · rw [if_pos z]
        have hM : ¬ ¬ v.2.1 115 M = 0 := fun y => (hr.mpr ⟨M, by omega, rfl, y⟩) z
        refine tt_l ⟨⟨M, by omega, by show nI M + -1 = nI M - 1; rw [Int32.sub_eq_add_neg], g3, fun k => (g4 k).trans ⟨?_, ?_⟩⟩, ms_d1 (by omega)⟩
        · rintro (⟨n, a1, a2, a3, a4⟩ | ⟨n, a1, a2, a3⟩)
          · exact Or.inl ⟨n, by omega, a2, a3, a4⟩
          · rcases Nat.lt_or_ge n M with y | y
            · exact Or.inr ⟨n, y, a2, a3⟩
            · rw [show n = M by omega] at a2
              exact absurd a2 hM
        · rintro (⟨n, a1, a2, a3, a4⟩ | ⟨n, a1, a2, a3⟩)
          · rcases Nat.lt_or_ge M n with y | y
            · exact Or.inl ⟨n, y, a2, a3, a4⟩
            · have a3' : ¬ v.2.1 115 n = 0 := a3
              rw [show n = M by omega] at a3'
              exact absurd a3' hM
          · exact Or.inr ⟨n, by omega, a2, a3⟩
      · rw [if_neg z]
        obtain ⟨m0, m1, m2, m3⟩ := hr.mp z
        have hM : ¬ v.2.1 115 M = 0 := by rw [nI_inj (by omega) (by omega) m2]; exact m3
        have hi : inb (nI M) 3800 := inb_nI (by omega) (by decide)
        rw [ck_t hi, rA_nI (by omega), ev (q + 9) (by omega)]
        refine tt_ob (c_mark (MK_N g3 hN) h8 (isPt_le pa (by omega))) (fun v1 k1 => ?_)
        rw [ck_t hi, rA_nI (by omega), k1.1.2.2 (q + 10) (by omega), ev (q + 10) (by omega)]
        refine tt_ob (c_mark (MK_N (MK_t g3 k1.1) hN) h8 (isPt_le pb (by omega))) (fun v2 k2 => ?_)
        have hmk : ∀ n, n < N → (¬ v2.2.1 115 n = 0 ↔ ((¬ v.2.1 115 n = 0 ∨ u.2.1 (q + 9) M = nI n) ∨ u.2.1 (q + 10) M = nI n)) := fun n hn => by rw [k2.2 n hn, k1.2 n hn]
        have na : ∀ n, M ≤ n → n < N → ¬ u.2.1 (q + 9) M = nI n := fun n y1 y2 e => by
          rcases pa with w | ⟨i, i1, w⟩
          · rw [w] at e; exact nI_m1 (by omega) e.symm
          · rw [w] at e
            have := nI_inj (by omega) (by omega) e
            omega
        have nb : ∀ n, M ≤ n → n < N → ¬ u.2.1 (q + 10) M = nI n := fun n y1 y2 e => by
          rcases pb with w | ⟨i, i1, w⟩
          · rw [w] at e; exact nI_m1 (by omega) e.symm
          · rw [w] at e
            have := nI_inj (by omega) (by omega) e
            omega
        have hat := fun k => RsU_at (u := u) (q := q) (N := N) (n := M) (k := k) (by omega) (by omega) pa pb
        refine tt_l ⟨⟨M, by omega, by show nI M + -1 = nI M - 1; rw [Int32.sub_eq_add_neg], MK_t (MK_t g3 k1.1) k2.1, fun k => (g4 k).trans ⟨?_, ?_⟩⟩, ms_d1 (by omega)⟩
        · rintro (⟨n, a1, a2, a3, a4⟩ | ⟨n, a1, a2, a3⟩)
          · exact Or.inl ⟨n, by omega, a2, (hmk n a2).mpr (Or.inl (Or.inl a3)), a4⟩
          · rcases Nat.lt_or_ge n M with y | y
            · exact Or.inr ⟨n, y, (hmk n (by omega)).mpr (Or.inl (Or.inl a2)), a3⟩
            · rw [show n = M by omega] at a3
              rcases (hat k).mp a3 with w | ⟨i, i1, i2, i3⟩ | ⟨i, i1, i2, i3⟩
              · exact Or.inl ⟨M, Nat.le_refl M, by omega, (hmk M (by omega)).mpr (Or.inl (Or.inl hM)), w⟩
              · have hiM : i < M := by
                  rcases Nat.lt_or_ge i M with y2 | y2
                  · exact y2
                  · exact absurd i2 (na i y2 i1)
                exact Or.inr ⟨i, hiM, (hmk i i1).mpr (Or.inl (Or.inr i2)), i3⟩
              · have hiM : i < M := by
                  rcases Nat.lt_or_ge i M with y2 | y2
                  · exact y2
                  · exact absurd i2 (nb i y2 i1)
                exact Or.inr ⟨i, hiM, (hmk i i1).mpr (Or.inr i2), i3⟩
        · rintro (⟨n, a1, a2, a3, a4⟩ | ⟨n, a1, a2, a3⟩)
          · have a3' : ¬ v.2.1 115 n = 0 := by
              rcases (hmk n a2).mp a3 with (w | w) | w
              · exact w
              · exact absurd w (na n a1 a2)
              · exact absurd w (nb n a1 a2)
            rcases Nat.lt_or_ge M n with y | y
            · exact Or.inl ⟨n, y, a2, a3', a4⟩
            · rw [show n = M by omega] at a4
              exact Or.inr ⟨M, Nat.lt_succ_self M, hM, (hat k).mpr (Or.inl a4)⟩
          · rcases (hmk n (by omega)).mp a2 with (w | w) | w
            · exact Or.inr ⟨n, by omega, w, a3⟩
            · exact Or.inr ⟨M, Nat.lt_succ_self M, hM, (hat k).mpr (Or.inr (Or.inl ⟨n, by omega, w, a3⟩))⟩
            · exact Or.inr ⟨M, Nat.lt_succ_self M, hM, (hat k).mpr (Or.inr (Or.inr ⟨n, by omega, w, a3⟩))⟩
  all_goals
    have eN : rF w2 q 11 = nI N := MK_N (MK_t h1.1 h2.1) hN
    have hst : ∃ M, M ≤ N ∧ imin x (rF w2 q 11 - 1) = nI M - 1 ∧ (x = -1 ∧ M = 0 ∨ ∃ m, m < N ∧ x = nI m ∧ M = m + 1) := by
      rw [eN]
      unfold imin
      rcases hx with e | ⟨m, hm, e⟩
      · refine ⟨0, Nat.zero_le N, ?_, Or.inl ⟨e, rfl⟩⟩
        rw [e]
        cases N with
        | zero => decide
        | succ N =>
          rw [nI_pred, if_neg (fun w => by
            rw [Int32.lt_iff_toInt_lt, nI_toInt (by omega), show (-1 : Int32).toInt = -1 from rfl] at w
            omega)]
          decide
      · refine ⟨m + 1, hm, ?_, Or.inr ⟨m, hm, e, rfl⟩⟩
        rw [e]
        cases N with
        | zero => omega
        | succ N =>
          rw [nI_pred, nI_pred, if_neg (nI_nlt (by omega) (by omega))]
    obtain ⟨M, hM1, hM2, hM3⟩ := hst
  · dsimp only
    rw [hM2]
    exact ms_i (by omega) (by omega)
  · refine ⟨M, hM1, hM2, MK_t h1.1 h2.1, fun k => ?_⟩
    have hmk : ∀ n, n < N → (¬ w2.2.1 115 n = 0 ↔ x = nI n) := fun n hn => by
      rw [h2.2 n hn, h1.2 n hn]
      exact ⟨fun w => w.elim (fun y => absurd rfl y) id, Or.inr⟩
    rcases hM3 with ⟨e, e0⟩ | ⟨m, hm, e, e0⟩
    · constructor
      · rintro ⟨n, hn, e1, -⟩
        rw [e] at e1
        exact absurd e1.symm (nI_m1 (by omega))
      · rintro (⟨n, a1, a2, a3, a4⟩ | ⟨n, a1, -⟩)
        · have := (hmk n a2).mp a3
          rw [e] at this
          exact absurd this.symm (nI_m1 (by omega))
        · omega
    · constructor
      · rintro ⟨n, hn, e1, hr⟩
        rw [e] at e1
        have en := nI_inj (by omega) (by omega) e1
        rw [← en] at hr
        exact Or.inr ⟨m, by omega, (hmk m hm).mpr e, hr⟩
      · rintro (⟨n, a1, a2, a3, a4⟩ | ⟨n, a1, a2, a3⟩)
        · have e1 := (hmk n a2).mp a3
          rw [e] at e1
          have := nI_inj (by omega) (by omega) e1
          omega
        · exact ⟨n, by omega, (hmk n (by omega)).mp a2, a3⟩
/-- what is marked above an entry: what rests on it -/
theorem c_markAbove {e0 : Nat} (hN : rF u q 11 = nI N) (h8 : N ≤ 3800) (hq : 115 < q) (he : e0 < 800) (hab : ∀ n, n < N → isPt n (u.2.1 (q + 9) n) ∧ isPt n (u.2.1 (q + 10) n)) (hF : 10000 < F) : Tt (g_X6_markAllAbove F q (nI e0) 115 3800 u) (fun w => MkO u w ∧ ∀ n, n < N → (¬ w.2.1 115 n = 0 ↔ RsU u q N n (3008 + e0))) := by
  unfold g_X6_markAllAbove
  refine tt_ob (c_unmark hN h8 hF) (fun w1 h1 => tt_b (tt_lp (I := fun s => ∃ m, m ≤ N ∧ s.1 = nI m ∧ MkO u s.2 ∧ (∀ n, n < m → (¬ s.2.2.1 115 n = 0 ↔ RsU u q N n (3008 + e0))) ∧ ∀ n, m ≤ n → n < N → s.2.2.1 115 n = 0) (m := fun s => ((N : Int) - s.1.toInt).toNat) (P := fun w => MkO u w ∧ ∀ n, n < N → (¬ w.2.1 115 n = 0 ↔ RsU u q N n (3008 + e0))) ?_ F _ ?_ ?_) (fun _ z => z))
  · rintro ⟨a, v⟩ ⟨m, g1, g2, g3, g4, g5⟩
    dsimp only at g2 g3 g4 g5 ⊢
    subst g2
    unfold g_X6_markAllAbove_l7
    rw [MK_N g3 hN]
    by_cases z : m < N
    · obtain ⟨pa, pb⟩ := hab m z
      have ev : ∀ j, j ≠ 115 → v.2.1 j = u.2.1 j := g3.2.2
      have hi : inb (nI m) 3800 := inb_nI (by omega) (by decide)
      have hat := RsU_at (u := u) (q := q) (N := N) (n := m) (k := 3008 + e0) z (by omega) pa pb
      have hown : ownK u q m (3008 + e0) ↔ u.2.1 (q + 8) m = nI e0 := by
        constructor
        · rintro (⟨w, -⟩ | ⟨j, j1, j2, j3⟩)
          · omega
          · rw [j2, show j = e0 by omega]
        · intro w
          exact Or.inr ⟨e0, he, w, rfl⟩
      have hin : ∀ y, isPt m y → ((∃ n, n < N ∧ y = nI n ∧ ¬ v.2.1 115 n = 0) ↔ inU u q N y (3008 + e0)) := fun y hy => by
        have hlt : ∀ n, n < N → y = nI n → n < m := fun n hn e => by
          rcases hy with w | ⟨i, i1, w⟩
          · rw [w] at e
            exact absurd e.symm (nI_m1 (by omega))
          · rw [w] at e
            have := nI_inj (by omega) (by omega) e
            omega
        constructor
        · rintro ⟨n, n1, n2, n3⟩
          exact ⟨n, n1, n2, (g4 n (hlt n n1 n2)).mp n3⟩
        · rintro ⟨n, n1, n2, n3⟩
          exact ⟨n, n1, n2, (g4 n (hlt n n1 n2)).mpr n3⟩
      have j64 : ¬ RsU u q N m (3008 + e0) → Tt (g_X6_markAllAbove_j64 F q 115 3800 (nI e0) (nI m) v) (PS (fun s' : Int32 × rg_U => (∃ m, m ≤ N ∧ s'.1 = nI m ∧ MkO u s'.2 ∧ (∀ n, n < m → (¬ s'.2.2.1 115 n = 0 ↔ RsU u q N n (3008 + e0))) ∧ ∀ n, m ≤ n → n < N → s'.2.2.1 115 n = 0) ∧ ((N : Int) - s'.1.toInt).toNat < ((N : Int) - (nI m).toInt).toNat) (fun w : rg_U => MkO u w ∧ ∀ n, n < N → (¬ w.2.1 115 n = 0 ↔ RsU u q N n (3008 + e0)))) := fun hno => by
        unfold g_X6_markAllAbove_j64
        refine tt_l ⟨⟨m + 1, by omega, by show nI m + 1 = nI (m + 1); rw [nI_1], g3, fun n hn => ?_, fun n n1 n2 => g5 n (by omega) n2⟩, ms_u z (by omega)⟩
        rcases Nat.lt_or_ge n m with y | y
        · exact g4 n y
        · rw [show n = m by omega]
          exact ⟨fun w => absurd (g5 m (Nat.le_refl m) z) w, fun w => absurd w hno⟩
      have j58 : RsU u q N m (3008 + e0) → Tt (g_X6_markAllAbove_j58 F q 115 3800 (nI e0) (nI m) v) (PS (fun s' : Int32 × rg_U => (∃ m, m ≤ N ∧ s'.1 = nI m ∧ MkO u s'.2 ∧ (∀ n, n < m → (¬ s'.2.2.1 115 n = 0 ↔ RsU u q N n (3008 + e0))) ∧ ∀ n, m ≤ n → n < N → s'.2.2.1 115 n = 0) ∧ ((N : Int) - s'.1.toInt).toNat < ((N : Int) - (nI m).toInt).toNat) (fun w : rg_U => MkO u w ∧ ∀ n, n < N → (¬ w.2.1 115 n = 0 ↔ RsU u q N n (3008 + e0)))) := fun hyes => by
        unfold g_X6_markAllAbove_j58 g_X6_markAllAbove_j64
        refine tt_ob (c_mark (MK_N g3 hN) h8 (Or.inr ⟨m, z, rfl⟩)) (fun v1 k1 => ?_)
        refine tt_l ⟨⟨m + 1, by omega, by show nI m + 1 = nI (m + 1); rw [nI_1], MK_t g3 k1.1, fun n hn => ?_, fun n n1 n2 => ?_⟩, ms_u z (by omega)⟩
        · show ¬ v1.2.1 115 n = 0 ↔ _
          rw [k1.2 n (by omega)]
          rcases Nat.lt_or_ge n m with y | y
          · rw [← g4 n y]
            exact ⟨fun w => w.elim id (fun e => absurd (nI_inj (by omega) (by omega) e) (by omega)), Or.inl⟩
          · rw [show n = m by omega]
            exact ⟨fun _ => hyes, fun _ => Or.inr rfl⟩
        · show v1.2.1 115 n = 0
          refine Classical.byContradiction fun w => ?_
          rcases (k1.2 n n2).mp w with y | y
          · exact y (g5 n (by omega) n2)
          · have := nI_inj (by omega) (by omega) y
            omega
      rw [if_neg (nI_ge z (by omega)), if_neg (show ¬ (3800 : Int32) ≤ nI m from nI_ge (a := m) (b := 3800) (by omega) (by decide)), ck_t hi, rA_nI (by omega), ev (q + 8) (by omega)]
      by_cases c1 : u.2.1 (q + 8) m = nI e0
      · rw [if_pos c1]
        exact j58 (hat.mpr (Or.inl (hown.mpr c1)))
      · rw [if_neg c1, ck_t hi, rA_nI (by omega), ev (q + 9) (by omega)]
        refine tt_ob (c_isM h8 (isPt_le pa (by omega))) (fun r hr => ?_)
        by_cases c2 : r = 0
        · rw [if_pos c2, ck_t hi, rA_nI (by omega), ev (q + 10) (by omega)]
          refine tt_ob (c_isM h8 (isPt_le pb (by omega))) (fun r' hr' => ?_)
          by_cases c3 : r' = 0
          · rw [if_pos c3]
            refine j64 (fun w => ?_)
            rcases hat.mp w with w | w | w
            · exact c1 (hown.mp w)
            · exact (hr.mpr ((hin _ pa).mpr w)) c2
            · exact (hr'.mpr ((hin _ pb).mpr w)) c3
          · rw [if_neg c3]
            exact j58 (hat.mpr (Or.inr (Or.inr ((hin _ pb).mp (hr'.mp c3)))))
        · rw [if_neg c2]
          exact j58 (hat.mpr (Or.inr (Or.inl ((hin _ pa).mp (hr.mp c2)))))
    · rw [if_pos (nI_le (by omega) (by omega))]
      exact tt_r ⟨g3, fun n hn => g4 n (by omega)⟩
  · exact ms_0 (by omega)
  · exact ⟨0, Nat.zero_le _, rfl, h1.1, fun n hn => absurd hn (Nat.not_lt_zero n), fun n _ hn => h1.2 n hn⟩
end ZC
