/-! the class: the stack, and what a step writes -/
section XK
variable {F o T N p M : Nat} {R : Nat → Row} {l : Nat → Nat} {m : Row} {u : rg_U} {x s n a b : Int32}
theorem x7_hasT {t : Nat} (h9 : rF u o 9 = nI M) (hM : M ≤ 3000) (ht : t ≤ M) : g_X7_hasTime F o (nI t) u = some 1 := by
  unfold g_X7_hasTime
  rw [if_neg (nI_pos (by omega)), h9, if_neg (nI_nlt ht (by omega)), if_neg (show ¬ (3000 : Int32) < nI t from nI_nlt (a := 3000) (b := t) (by omega) (by decide))]
theorem x7_no : g_X7_hasTime F o (-1) u = some 0 := by
  unfold g_X7_hasTime
  rw [if_pos (by decide)]
theorem x7_counter {t : Nat} (h9 : rF u o 9 = nI M) (hM : M ≤ 3000) (ht : t ≤ M) : g_X7_counterAt F o (nI t) u = some (u.2.1 (o + 30) t) := by
  unfold g_X7_counterAt
  rw [x7_hasT h9 hM ht, ob_i, if_neg (by decide), ck_t (inb_nI (by omega) (by decide)), rA_nI (by omega)]
theorem x7_outs {t : Nat} (h9 : rF u o 9 = nI M) (hM : M ≤ 3000) (ht : t ≤ M) : g_X7_outsAt F o (nI t) u = some (u.2.1 (o + 31) t) := by
  unfold g_X7_outsAt
  rw [x7_hasT h9 hM ht, ob_i, if_neg (by decide), ck_t (inb_nI (by omega) (by decide)), rA_nI (by omega)]
theorem x7_check {t : Nat} (h9 : rF u o 9 = nI M) (hM : M ≤ 3000) (ht : t ≤ M) : g_X7_checkAt F o (nI t) u = some (u.2.1 (o + 32) t) := by
  unfold g_X7_checkAt
  rw [x7_hasT h9 hM ht, ob_i, if_neg (by decide), ck_t (inb_nI (by omega) (by decide)), rA_nI (by omega)]
theorem x7_top {t : Nat} (h9 : rF u o 9 = nI M) (hM : M ≤ 3000) (ht : t ≤ M) : g_X7_topAt F o (nI t) u = some (u.2.1 (o + 33) t) := by
  unfold g_X7_topAt
  rw [x7_hasT h9 hM ht, ob_i, if_neg (by decide), ck_t (inb_nI (by omega) (by decide)), rA_nI (by omega)]
theorem c_stackSize {t : Nat} (h9 : rF u o 9 = nI M) (hM : M ≤ 3000) (ht : t ≤ M) (hS : ∀ s, s ≤ t → SI u o R s) (hF : 10000 < F) : g_X7_stackSizeAt F o (nI t) u = some (R t 121) := by
  obtain ⟨d, d8, ed, -, -⟩ := (hS t (Nat.le_refl _)).2.2.2
  unfold g_X7_stackSizeAt
  rw [x7_top h9 hM ht, ob_i, ed]
  refine tt_eq (tt_b (tt_lp (I := fun z => ∃ s e, s ≤ t ∧ e ≤ d ∧ z.2 = u.2.1 (o + 33) s ∧ R s 121 = nI e ∧ z.1 = nI (d - e)) (m := fun z => (8 - z.1.toInt).toNat) (P := fun r => r = nI d) ?_ F _ ?_ ?_) (fun _ q => q))
  · rintro ⟨y, w⟩ ⟨s, e, h1, h2, h3, h4, h5⟩
    dsimp only at h3 h5 ⊢
    subst h3 h5
    unfold g_X7_stackSizeAt_l8
    obtain ⟨d', k1, k2, k3, k4⟩ := (hS s h1).2.2.2
    have e1 : d' = e := nI_inj (by omega) (by omega) (k2.symm.trans h4)
    subst e1
    cases d' with
    | zero =>
      rw [if_pos (k3 rfl)]
      exact tt_r (by rw [Nat.sub_zero])
    | succ e' =>
      obtain ⟨s', b1, b2, b3, b4, b5⟩ := k4 e' rfl
      rw [b2, if_neg (nI_m1 (by omega)), if_neg (show ¬ (8 : Int32) ≤ nI (d - (e' + 1)) from nI_ge (a := d - (e' + 1)) (b := 8) (by omega) (by decide)), x7_top h9 hM (by omega), ob_i]
      refine tt_l ⟨⟨s', e', by omega, by omega, rfl, b4, ?_⟩, ?_⟩
      · show nI (d - (e' + 1)) + 1 = nI (d - e')
        rw [nI_1, show d - (e' + 1) + 1 = d - e' by omega]
      · exact ms_u (C := 8) (by omega) (by omega)
  · exact ms_0 (C := 8) (by omega)
  · exact ⟨t, d, Nat.le_refl _, Nat.le_refl _, rfl, ed, by rw [Nat.sub_self]; rfl⟩
theorem c_stackedAt {t d : Nat} (h9 : rF u o 9 = nI M) (hM : M ≤ 3000) (ht : t ≤ M) (hS : ∀ s, s ≤ t → SI u o R s) (hd : R t 121 = nI d) (d8 : d ≤ 8) (hF : 10000 < F) : g_X7_stackedAt F o (nI t) x u = some (if x < 0 ∨ nI d ≤ x then -1000001 else R t (122 + tn x)) := by
  unfold g_X7_stackedAt
  rw [c_stackSize h9 hM ht hS hF, ob_i, hd]
  by_cases q0 : x < 0
  · rw [if_pos q0, if_pos (Or.inl q0)]
  rw [if_neg q0]
  obtain ⟨k, hk31, rfl⟩ := nI_of q0
  by_cases q1 : k < d
  · rw [if_pos (nI_lt q1 (by omega)), if_neg (fun z => by rcases z with z | z; exact q0 z; exact nI_ge q1 (by omega) z), x7_top h9 hM ht, ob_i, tnn hk31]
    have key : Tt (lp (fun (z : (Int32 × Int32)) => g_X7_stackedAt_l30 F o (nI k) u z.1 z.2) F (u.2.1 (o + 33) t, nI d - 1)) (fun r => ∃ s, s < t ∧ r = nI s ∧ u.2.1 (o + 30) s + 1 = R t (122 + k)) := by
      refine tt_lp (I := fun z => ∃ s e, s ≤ t ∧ k < e ∧ e ≤ d ∧ z.1 = u.2.1 (o + 33) s ∧ R s 121 = nI e ∧ z.2 = nI e - 1 ∧ ∀ i, i < e → R s (122 + i) = R t (122 + i)) (m := fun z => (z.2.toInt + 1).toNat) ?_ F _ ?_ ?_
      · rintro ⟨y, w⟩ ⟨s, e, h1, h2, h3, h4, h5, h6, h7⟩
        dsimp only at h4 h6 ⊢
        subst h4 h6
        unfold g_X7_stackedAt_l30
        obtain ⟨d', k1, k2, k3, k4⟩ := (hS s h1).2.2.2
        have e1 : d' = e := nI_inj (by omega) (by omega) (k2.symm.trans h5)
        subst e1
        cases d' with
        | zero => omega
        | succ e' =>
          obtain ⟨s', b1, b2, b3, b4, b5⟩ := k4 e' rfl
          rw [nI_pred]
          by_cases z : e' = k
          · rw [z, if_pos (nI_le (Nat.le_refl _) hk31)]
            subst z
            exact tt_r ⟨s', by omega, b2, by rw [← b3]; exact h7 e' (by omega)⟩
          · rw [if_neg (nI_ge (by omega) (by omega)), b2, x7_top h9 hM (by omega), ob_i]
            refine tt_l ⟨⟨s', e', by omega, by omega, by omega, rfl, b4, ?_, fun i hi => (b5 i hi).trans (h7 i (by omega))⟩, ?_⟩
            · dsimp only
              rw [Int32.sub_eq_add_neg]
            · exact ms_d1 (by omega)
      · exact ms_i (by omega) (by omega)
      · exact ⟨t, d, Nat.le_refl _, q1, Nat.le_refl _, rfl, hd, rfl, fun _ _ => rfl⟩
    obtain ⟨r, e, s, hs, er, ev⟩ := key
    rw [e, ob_i, er, x7_counter h9 hM (by omega), ob_i, ev]
  · rw [if_neg (nI_nlt (by omega) (by omega)), if_pos (Or.inr (nI_le (by omega) (by omega)))]
/-! what a step writes of its own time -/
theorem SI_30 (hS : ∀ t, t ≤ T + 1 → SI u o (Rx R T m) t) : ∀ t, t ≤ T + 1 → SI (rg_R u (o + 30) (T + 1) x) o (Rx R T (upd m 120 x)) t := by
  intro t ht
  rcases Nat.lt_or_ge T t with y | y
  · have et : t = T + 1 := by omega
    subst et
    obtain ⟨h1, h2, h3, h4⟩ := hS (T + 1) ht
    rw [Rx_gt y] at h1 h2 h3
    obtain ⟨d, k1, k2, k3, k4⟩ := h4
    unfold SI KI
    simp only [Rx_gt y] at k2 k4 ⊢
    rw [R_s, pk_us, pk_us, R_n (by omega), R_n (by omega), R_n (by omega), pk_un (by decide), pk_un (by decide), pk_un (by decide)]
    refine ⟨rfl, h2, h3, d, k1, k2, k3, fun f hf => ?_⟩
    obtain ⟨s, b1, b2, b3, b4, b5⟩ := k4 f hf
    have hs : s ≤ T := by omega
    simp only [Rx_le hs] at b4 b5
    exact ⟨s, b1, b2, by rw [pk_un (by omega), pk_un (by omega)]; exact b3, by rw [Rx_le hs]; exact b4, fun i hi => by rw [Rx_le hs, pk_un (by omega)]; exact b5 i hi⟩
  · exact SI_c (hS t ht) (fun s hs => by rw [R_s, pk_un (by omega)]) (by rw [R_n (by omega)]) (by rw [R_n (by omega)]) (by rw [R_n (by omega)]) (fun s hs => by rw [Rx_le (by omega), Rx_le (by omega)])
theorem PRow_hi {q k i : Nat} (h : PRow u q k m) (hi : 120 ≤ i) : PRow u q k (upd m i x) := fun p hp => by
  rw [pk_un (by omega), pk_un (by omega), pk_un (by omega)]
  exact h p hp
theorem MD_goOn (h : MD u o T N R l m) : MD (rg_R u (o + 30) (T + 1) x) o T N R l (upd m 120 x) := by
  obtain ⟨h1, h2, h3, h4, h5, h6⟩ := h
  refine ⟨h1, h2, SI_30 h3, PI_c h4 rfl (fun j a b => R_n (by omega)) (R_n (by omega)), PRow_hi (PRow_c h5 (fun j a b => R_n (by omega))) (by omega), fun t ht => ?_⟩
  rw [R_n (by omega)]
  exact ⟨PRow_c (h6 t ht).1 (fun j a b => R_n (by omega)), (h6 t ht).2⟩
theorem c_goOnAt (h9 : rF u o 9 = nI T) (hT : T < 3000) : g_X7_goOnAt F o x u = some (rg_R u (o + 30) (T + 1) x) := by
  unfold g_X7_goOnAt
  rw [h9, if_neg (nI_pos (by omega)), if_neg (show ¬ (3000 : Int32) ≤ nI T from nI_ge (a := T) (b := 3000) hT (by decide)), nI_1, ck_t (inb_nI (by omega) (by decide)), lt1_i, sA_nI (by omega)]
theorem MD_hi (h : MD u o T N R l m) (x : Int32) : MD u o T N R l (upd m 132 x) := by
  obtain ⟨h1, h2, h3, h4, h5, h6⟩ := h
  exact ⟨h1, h2, MD_row h3 (fun k k1 k2 => pk_un (by omega)), h4, PRow_hi h5 (by omega), h6⟩
theorem MD_133 (h : MD u o T N R l m) (x : Int32) : MD u o T N R l (upd m 133 x) := by
  obtain ⟨h1, h2, h3, h4, h5, h6⟩ := h
  exact ⟨h1, h2, MD_row h3 (fun k k1 k2 => pk_un (by omega)), h4, PRow_hi h5 (by omega), h6⟩
/-- put out -/
theorem SI_out (hS : ∀ t, t ≤ T + 1 → SI u o (Rx R T m) t) : ∀ t, t ≤ T + 1 → SI (rg_R (rg_R u (o + 31) (T + 1) x) (o + 32) (T + 1) s) o (Rx R T (upd (upd m 130 x) 131 s)) t := by
  intro t ht
  rcases Nat.lt_or_ge T t with y | y
  · have et : t = T + 1 := by omega
    subst et
    obtain ⟨h1, h2, h3, h4⟩ := hS (T + 1) ht
    rw [Rx_gt y] at h1 h2 h3
    obtain ⟨d, k1, k2, k3, k4⟩ := h4
    unfold SI KI
    simp only [Rx_gt y] at k2 k4 ⊢
    rw [R_n (show o + 30 ≠ o + 32 by omega), R_n (show o + 30 ≠ o + 31 by omega), R_n (show o + 31 ≠ o + 32 by omega), R_s, R_s, R_n (show o + 33 ≠ o + 32 by omega), R_n (show o + 33 ≠ o + 31 by omega), pk_us, pk_us, pk_us, pk_un (show 120 ≠ 131 by decide), pk_un (show 120 ≠ 130 by decide), pk_un (show 130 ≠ 131 by decide), pk_us, pk_un (show 121 ≠ 131 by decide), pk_un (show 121 ≠ 130 by decide)]
    refine ⟨h1, rfl, rfl, d, k1, k2, k3, fun f hf => ?_⟩
    obtain ⟨s', b1, b2, b3, b4, b5⟩ := k4 f hf
    have hs : s' ≤ T := by omega
    simp only [Rx_le hs] at b4 b5
    exact ⟨s', b1, b2, by rw [pk_un (by omega), pk_un (by omega)]; exact b3, by rw [Rx_le hs]; exact b4, fun i hi => by rw [Rx_le hs, pk_un (by omega), pk_un (by omega)]; exact b5 i hi⟩
  · exact SI_c (hS t ht) (fun s hs => by rw [R_n (by omega), R_n (by omega)]) (by rw [R_n (by omega), R_s, pk_un (by omega)]) (by rw [R_s, pk_un (by omega), R_n (by omega)]) (by rw [R_n (by omega), R_n (by omega)]) (fun s hs => by rw [Rx_le (by omega), Rx_le (by omega)])
theorem MD_out (h : MD u o T N R l m) : MD (rg_R (rg_R u (o + 31) (T + 1) x) (o + 32) (T + 1) s) o T N R l (upd (upd m 130 x) 131 s) := by
  obtain ⟨h1, h2, h3, h4, h5, h6⟩ := h
  have e : ∀ j, (j < o + 31 ∨ o + 32 < j) → (rg_R (rg_R u (o + 31) (T + 1) x) (o + 32) (T + 1) s).2.1 j = u.2.1 j := fun j hj => by rw [R_n (by omega), R_n (by omega)]
  refine ⟨h1, h2, SI_out h3, PI_c h4 rfl (fun j a b => e j (by omega)) (e _ (by omega)), PRow_hi (PRow_hi (PRow_c h5 (fun j a b => e j (by omega))) (by omega)) (by omega), fun t ht => ?_⟩
  rw [e _ (by omega)]
  exact ⟨PRow_c (h6 t ht).1 (fun j a b => e j (by omega)), (h6 t ht).2⟩
theorem c_addOut (h : MD u o T N R l m) (h131 : m 131 = R T 131) : g_X7_addOut F o x n u = some (rg_R (rg_R u (o + 31) (T + 1) (m 130 + 1)) (o + 32) (T + 1) (31 * m 131 + 3 * n + x)) := by
  obtain ⟨h1, h2, h3, -, -, -⟩ := h
  have e1 : u.2.1 (o + 31) (T + 1) = m 130 := by rw [(h3 (T + 1) (Nat.le_refl _)).2.1, Rx_gt (by omega)]
  have e2 : u.2.1 (o + 32) T = R T 131 := by rw [(h3 T (by omega)).2.2.1, Rx_le (Nat.le_refl _)]
  have hi : inb (nI (T + 1)) 3001 := inb_nI (by omega) (by decide)
  unfold g_X7_addOut
  rw [h1, if_neg (nI_pos (by omega)), if_neg (show ¬ (3000 : Int32) ≤ nI T from nI_ge (a := T) (b := 3000) h2 (by decide)), nI_1, ck_t hi, ck_t hi, lt1_i, rA_nI (by omega), e1, sA_nI (by omega)]
  have e9 : rF (rg_R u (o + 31) (T + 1) (m 130 + 1)) o 9 = nI T := h1
  rw [e9, nI_1, ck_t (inb_nI (by omega) (by decide)), ck_t hi, lt1_i, rA_nI (by omega), R_n (by omega), e2, sA_nI (by omega), h131]
/-- a call comes on the stack -/
theorem SI_up {d : Nat} (hS : ∀ t, t ≤ T + 1 → SI u o (Rx R T m) t) (hd : R T 121 = nI d) (d8 : d < 8) (h120 : m 120 = R T 120 + 1) (hst : ∀ i, i < d → m (122 + i) = R T (122 + i)) : ∀ t, t ≤ T + 1 → SI (rg_R u (o + 33) (T + 1) (nI T)) o (Rx R T (upd (upd m (122 + d) (m 120)) 121 (nI (d + 1)))) t := by
  intro t ht
  rcases Nat.lt_or_ge T t with y | y
  · have et : t = T + 1 := by omega
    subst et
    obtain ⟨h1, h2, h3, h4⟩ := hS (T + 1) ht
    rw [Rx_gt y] at h1 h2 h3
    unfold SI KI
    simp only [Rx_gt y]
    rw [R_n (show o + 30 ≠ o + 33 by omega), R_n (show o + 31 ≠ o + 33 by omega), R_n (show o + 32 ≠ o + 33 by omega), R_s, pk_us, pk_us, pk_un (show 120 ≠ 121 by decide), pk_un (show 120 ≠ 122 + d by omega), pk_un (show 130 ≠ 121 by decide), pk_un (show 130 ≠ 122 + d by omega), pk_un (show 131 ≠ 121 by decide), pk_un (show 131 ≠ 122 + d by omega)]
    refine ⟨h1, h2, h3, d + 1, by omega, rfl, fun z => by omega, fun f hf => ?_⟩
    have ef : f = d := by omega
    subst ef
    refine ⟨T, by omega, rfl, ?_, by rw [Rx_le (Nat.le_refl _)]; exact hd, fun i hi => ?_⟩
    · rw [pk_un (by omega), pk_us, h120]
      have := (hS T (by omega)).1
      rw [Rx_le (Nat.le_refl _)] at this
      rw [this]
    · rw [Rx_le (Nat.le_refl _), pk_un (by omega), pk_un (by omega)]
      exact (hst i hi).symm
  · exact SI_c (hS t ht) (fun s hs => by rw [R_n (by omega)]) (by rw [R_n (by omega)]) (by rw [R_n (by omega)]) (by rw [R_s, pk_un (by omega)]) (fun s hs => by rw [Rx_le (by omega), Rx_le (by omega)])
theorem MD_33 {m' : Row} {y : Int32} (h : MD u o T N R l m) (hS : ∀ t, t ≤ T + 1 → SI (rg_R u (o + 33) (T + 1) y) o (Rx R T m') t) (hp : ∀ p, p < 120 → m' p = m p) : MD (rg_R u (o + 33) (T + 1) y) o T N R l m' := by
  obtain ⟨h1, h2, h3, h4, h5, h6⟩ := h
  refine ⟨h1, h2, hS, PI_c h4 rfl (fun j a b => R_n (by omega)) (R_n (by omega)), fun p hp' => ?_, fun t ht => ?_⟩
  · rw [hp p (by omega), hp (40 + p) (by omega), hp (80 + p) (by omega)]
    exact PRow_c h5 (fun j a b => R_n (by omega)) p hp'
  · rw [R_n (by omega)]
    exact ⟨PRow_c (h6 t ht).1 (fun j a b => R_n (by omega)), (h6 t ht).2⟩
theorem c_stackUp (h9 : rF u o 9 = nI T) (hT : T < 3000) : g_X7_stackUp F o u = some (rg_R u (o + 33) (T + 1) (nI T)) := by
  unfold g_X7_stackUp
  rw [h9, if_neg (nI_pos (by omega)), if_neg (show ¬ (3000 : Int32) ≤ nI T from nI_ge (a := T) (b := 3000) hT (by decide)), nI_1, ck_t (inb_nI (by omega) (by decide)), lt1_i, sA_nI (by omega)]
/-- a call goes from the stack -/
theorem SI_down {d s : Nat} (hS : ∀ t, t ≤ T + 1 → SI u o (Rx R T m) t) (hs : s < T) (d8 : d < 8) (hd : R s 121 = nI d) (hst : ∀ i, i < d → R s (122 + i) = m (122 + i)) : ∀ t, t ≤ T + 1 → SI (rg_R u (o + 33) (T + 1) (u.2.1 (o + 33) s)) o (Rx R T (upd m 121 (nI d))) t := by
  intro t ht
  rcases Nat.lt_or_ge T t with y | y
  · have et : t = T + 1 := by omega
    subst et
    obtain ⟨h1, h2, h3, h4⟩ := hS (T + 1) ht
    rw [Rx_gt y] at h1 h2 h3
    obtain ⟨d', k1, k2, k3, k4⟩ := (hS s (by omega)).2.2.2
    rw [Rx_le (by omega)] at k2
    have e1 : d' = d := nI_inj (by omega) (by omega) (k2.symm.trans hd)
    subst e1
    unfold SI KI
    simp only [Rx_gt y]
    rw [R_n (show o + 30 ≠ o + 33 by omega), R_n (show o + 31 ≠ o + 33 by omega), R_n (show o + 32 ≠ o + 33 by omega), R_s, pk_us, pk_us, pk_un (show 120 ≠ 121 by decide), pk_un (show 130 ≠ 121 by decide), pk_un (show 131 ≠ 121 by decide)]
    refine ⟨h1, h2, h3, d', by omega, rfl, k3, fun f hf => ?_⟩
    obtain ⟨s', b1, b2, b3, b4, b5⟩ := k4 f hf
    have hs' : s' ≤ T := by omega
    rw [Rx_le (show s ≤ T by omega)] at b3
    rw [Rx_le hs'] at b4
    refine ⟨s', by omega, b2, ?_, by rw [Rx_le hs']; exact b4, fun i hi => ?_⟩
    · rw [pk_un (by omega), ← hst f (by omega)]; exact b3
    · have := b5 i hi
      rw [Rx_le hs', Rx_le (by omega)] at this
      rw [Rx_le hs', pk_un (by omega), ← hst i (by omega)]
      exact this
  · exact SI_c (hS t ht) (fun s hs => by rw [R_n (by omega)]) (by rw [R_n (by omega)]) (by rw [R_n (by omega)]) (by rw [R_s, pk_un (by omega)]) (fun s hs => by rw [Rx_le (by omega), Rx_le (by omega)])
theorem c_stackDown {s : Nat} (h9 : rF u o 9 = nI T) (hT : T < 3000) (hs : s < T) (e : u.2.1 (o + 33) T = nI s) : g_X7_stackDown F o u = some (rg_R u (o + 33) (T + 1) (u.2.1 (o + 33) s)) := by
  unfold g_X7_stackDown
  rw [h9, if_neg (nI_pos (by omega)), if_neg (show ¬ (3000 : Int32) ≤ nI T from nI_ge (a := T) (b := 3000) hT (by decide)), x7_top h9 (by omega) (Nat.le_refl _), ob_i, e, x7_top h9 (by omega) (by omega), ob_i, nI_1, ck_t (inb_nI (by omega) (by decide)), lt1_i, sA_nI (by omega)]
end XK
