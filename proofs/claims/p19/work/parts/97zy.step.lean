/-! the class: a step -/
/-- what the put of an order is told to rest on: an entry of the log, two puts -/
def lkV (k : Nat) (a b c : Int32) (L : Nat) (m : Row) (pp : Nat → Int32) (N : Nat) : Int32 × Int32 × Int32 := match k with
  | 0 => (-1, -1, -1)
  | 1 => (-1, -1, -1)
  | 2 => (-1, -1, -1)
  | 3 => (-1, lat pp (tn b) N, -1)
  | 11 => (-1, lat pp (tn b) N, -1)
  | 13 => (-1, lat pp (tn b) N, lat pp (8 + tn (m (40 + tn b))) N)
  | 14 => (-1, lat pp (tn a) N, lat pp (tn b) N)
  | 15 => (-1, -1, -1)
  | 16 => (-1, -1, -1)
  | 17 => (-1, -1, -1)
  | 18 => (-1, -1, -1)
  | 19 => (nI L, -1, -1)
  | 20 => (nI L, -1, -1)
  | 21 => (-1, -1, -1)
  | 22 => (-1, -1, -1)
  | _ => (-1, lat pp (tn b) N, lat pp (tn c) N)
/-- what comes from outside, and calls: what an order changes ahead of the rest -/
def EX (k : Nat) (tr : Int32) (u u' : rg_U) (o T C L A0 W d : Nat) (a b : Int32) : Prop :=
  (k = 17 ∧ tr = 0 ∧ C < 100 ∧ u' = caddS u (o + 24) C (nI T) a (nI d)) ∨
  (k = 19 ∧ u' = laddS (sF (sF u 6 1 (nI ((A0 + 1) % 900))) 6 2 (nI (W - 1))) (o + 6) L (nI T) 0 (-1) 2 (wt9 u A0 0)) ∨
  (k = 20 ∧ u' = laddS (sF u 6 3 (drawX (rF u 6 3))) (o + 6) L (nI T) 1 (-1) 2 (drawN (rF u 6 3) b)) ∨
  (¬ (k = 17 ∧ tr = 0 ∧ C < 100) ∧ k ≠ 19 ∧ k ≠ 20 ∧ u' = u)
section XR
variable {F o T N C L A0 W d k cn : Nat} {R : Nat → Row} {l : Nat → Nat} {m : Row} {u : rg_U} {a b c num en : Int32}
theorem EX_no {tr : Int32} (h17 : k ≠ 17) (h19 : k ≠ 19) (h20 : k ≠ 20) : EX k tr u u o T C L A0 W d a b := Or.inr (Or.inr (Or.inr ⟨fun z => h17 z.1, h19, h20, rfl⟩))
theorem c_order (hk : k < 23) (h : MD u o T N R l m) (h8 : N < 3800) (h10 : rF u o 10 = m 132) (h11 : rF u o 11 = -1) (hv : ¬ g_X10_isFine (nI k) a b c = 0) (ho : 116 ≤ o) (hd : R T 121 = nI d) (hd2 : m 121 = nI d) (d8 : d ≤ 8) (hst : ∀ i, i < d → m (122 + i) = R T (122 + i)) (h120 : m 120 = R T 120 + 1) (h131 : m 131 = R T 131) (hC : rF u (o + 24) 3 = nI C) (hC1 : C ≤ 100) (hL : rF u (o + 6) 5 = nI L) (hL8 : k = 19 ∨ k = 20 → L < 800) (hO : okO9 u A0 W) (hW : k = 19 → 0 < W) (hn19 : k = 19 → num = wt9 u A0 0) (hn20 : k = 20 → num = drawN (rF u 6 3) b) (hF : 10000 < F) : ∃ v u', perfK F o (nI k) a b c u = some ((mdo m k a b c num en).2.1, v) ∧ EX k (mdo m k a b c num en).2.1 u u' o T C L A0 W d a b ∧ PO u' v o T N R l m (mdo m k a b c num en) (lkV k a b c L m (u.2.1 (o + 14)) N) := by
  match k, hk with
  | 0, _ =>
    obtain ⟨v, e1, e2⟩ := pf_0 (F := F) (num := num) (en := en) h h8 h10 h11 hv
    exact ⟨v, u, e1, EX_no (by decide) (by decide) (by decide), e2⟩
  | 1, _ =>
    obtain ⟨v, e1, e2⟩ := pf_1 (F := F) (num := num) (en := en) h h8 h10 h11 hv
    exact ⟨v, u, e1, EX_no (by decide) (by decide) (by decide), e2⟩
  | 2, _ =>
    obtain ⟨v, e1, e2⟩ := pf_2 (F := F) (num := num) (en := en) h h8 h10 h11 hv
    exact ⟨v, u, e1, EX_no (by decide) (by decide) (by decide), e2⟩
  | 3, _ =>
    obtain ⟨v, e1, e2⟩ := pf_3 (F := F) (num := num) (en := en) h h8 h10 h11 hv
    exact ⟨v, u, e1, EX_no (by decide) (by decide) (by decide), e2⟩
  | 4, _ =>
    obtain ⟨v, e1, e2⟩ := pf_4 (F := F) (num := num) (en := en) h h8 h10 h11 hv
    exact ⟨v, u, e1, EX_no (by decide) (by decide) (by decide), e2⟩
  | 5, _ =>
    obtain ⟨v, e1, e2⟩ := pf_5 (F := F) (num := num) (en := en) h h8 h10 h11 hv
    exact ⟨v, u, e1, EX_no (by decide) (by decide) (by decide), e2⟩
  | 6, _ =>
    obtain ⟨v, e1, e2⟩ := pf_6 (F := F) (num := num) (en := en) h h8 h10 h11 hv
    exact ⟨v, u, e1, EX_no (by decide) (by decide) (by decide), e2⟩
  | 7, _ =>
    obtain ⟨v, e1, e2⟩ := pf_7 (F := F) (num := num) (en := en) h h8 h10 h11 hv
    exact ⟨v, u, e1, EX_no (by decide) (by decide) (by decide), e2⟩
  | 8, _ =>
    obtain ⟨v, e1, e2⟩ := pf_8 (F := F) (num := num) (en := en) h h8 h10 h11 hv
    exact ⟨v, u, e1, EX_no (by decide) (by decide) (by decide), e2⟩
  | 9, _ =>
    obtain ⟨v, e1, e2⟩ := pf_9 (F := F) (num := num) (en := en) h h8 h10 h11 hv
    exact ⟨v, u, e1, EX_no (by decide) (by decide) (by decide), e2⟩
  | 10, _ =>
    obtain ⟨v, e1, e2⟩ := pf_10 (F := F) (num := num) (en := en) h h8 h10 h11 hv
    exact ⟨v, u, e1, EX_no (by decide) (by decide) (by decide), e2⟩
  | 11, _ =>
    obtain ⟨v, e1, e2⟩ := pf_11 (F := F) (num := num) (en := en) h h8 h10 h11 hv
    exact ⟨v, u, e1, EX_no (by decide) (by decide) (by decide), e2⟩
  | 12, _ =>
    obtain ⟨v, e1, e2⟩ := pf_12 (F := F) (num := num) (en := en) h h8 h10 h11 hv
    exact ⟨v, u, e1, EX_no (by decide) (by decide) (by decide), e2⟩
  | 13, _ =>
    obtain ⟨v, e1, e2⟩ := pf_13 (F := F) (num := num) (en := en) h h8 h10 h11 hv
    exact ⟨v, u, e1, EX_no (by decide) (by decide) (by decide), e2⟩
  | 14, _ =>
    obtain ⟨v, e1, e2⟩ := pf_14 (F := F) (num := num) (en := en) h h8 h10 h11 hv
    exact ⟨v, u, e1, EX_no (by decide) (by decide) (by decide), e2⟩
  | 15, _ =>
    obtain ⟨v, e1, e2⟩ := pf_15 (F := F) (num := num) (en := en) h h8 h10 h11 hv
    exact ⟨v, u, e1, EX_no (by decide) (by decide) (by decide), e2⟩
  | 16, _ =>
    obtain ⟨v, e1, e2⟩ := pf_16 (F := F) (num := num) (en := en) h h8 h10 h11 hv
    exact ⟨v, u, e1, EX_no (by decide) (by decide) (by decide), e2⟩
  | 17, _ =>
    obtain ⟨v, u', e1, e2, e3, e4⟩ := pf_17 (F := F) (a := a) (b := b) (c := c) (num := num) (en := en) (k := (-1, -1, -1)) h h10 h11 hd hd2 d8 hst h120 hC hC1 hF
    refine ⟨v, u', e1, ?_, e4⟩
    rcases e2 with ⟨q1, q2, q3⟩ | ⟨q1, q2⟩
    · exact Or.inl ⟨rfl, e3.mpr q1, q2, q3⟩
    · exact Or.inr (Or.inr (Or.inr ⟨fun z => q1 ⟨e3.mp z.2.1, z.2.2⟩, by decide, by decide, q2⟩))
  | 18, _ =>
    obtain ⟨v, e1, e2⟩ := pf_18 (F := F) (num := num) (en := en) h h8 h10 h11 hv hd hd2 d8 hst hF
    exact ⟨v, u, e1, EX_no (by decide) (by decide) (by decide), e2⟩
  | 19, _ =>
    have hW' := hW rfl
    obtain ⟨v, e1, e2⟩ := pf_19 (F := F) (a := a) (b := b) (c := c) (en := en) (W := W - 1) h h8 h10 hv ho hL (hL8 (Or.inl rfl)) (by rw [show W - 1 + 1 = W by omega]; exact hO)
    rw [hn19 rfl]
    exact ⟨v, _, e1, Or.inr (Or.inl ⟨rfl, rfl⟩), e2⟩
  | 20, _ =>
    obtain ⟨v, e1, e2⟩ := pf_20 (F := F) (a := a) (b := b) (c := c) (en := en) h h8 h10 hv ho hL (hL8 (Or.inr rfl))
    rw [hn20 rfl]
    exact ⟨v, _, e1, Or.inr (Or.inr (Or.inl ⟨rfl, rfl⟩)), e2⟩
  | 21, _ =>
    obtain ⟨v, e1, e2⟩ := pf_21 (F := F) (num := num) (en := en) h h8 h10 h11 hv h131
    exact ⟨v, u, e1, EX_no (by decide) (by decide) (by decide), e2⟩
  | 22, _ =>
    obtain ⟨v, e1, e2⟩ := pf_22 (F := F) (num := num) (en := en) h h8 h10 h11 hv
    exact ⟨v, u, e1, EX_no (by decide) (by decide) (by decide), e2⟩
  | k + 23, hk => omega
/-- the run, up to its time -/
def RunS (u : rg_U) (o T N : Nat) (R : Nat → Row) (l : Nat → Nat) : Prop := rF u o 9 = nI T ∧ T ≤ 3000 ∧ (∀ t, t ≤ T → SI u o R t) ∧ PI u (o + 12) T N ∧ ∀ t, t ≤ T → PRow u (o + 12) (cP (u.2.1 (o + 13)) t N) (R t) ∧ cP (u.2.1 (o + 13)) t N ≤ t + l t
theorem PI_all {q : Nat} (h : PI u q T N) : cP (u.2.1 (q + 1)) T N = N := cP_all fun n hn => by
  obtain ⟨s, p, hs, -, e, -⟩ := h.2.2.2.2.2 n hn
  have := h.2.2.1
  rw [e, tnn (by omega)]
  exact hs
theorem PI_up {q T' : Nat} (h : PI u q T N) (hT : T ≤ T') (h3 : T' ≤ 3000) : PI u q T' N := by
  obtain ⟨h1, h2, -, h4, h5, h6⟩ := h
  refine ⟨h1, h2, h3, h4, h5, fun n hn => ?_⟩
  obtain ⟨s, p, hs, r⟩ := h6 n hn
  exact ⟨s, p, by omega, r⟩
/-- what the step lays ahead of the order -/
def prepS (u : rg_U) (o T : Nat) (x y z w : Int32) : rg_U := rg_R (rg_R (rg_R (rg_R (sF u o 11 (-1)) (o + 30) (T + 1) x) (o + 31) (T + 1) y) (o + 32) (T + 1) z) (o + 33) (T + 1) w
theorem prepS_n {j : Nat} {x y z w : Int32} (h : j < o + 30 ∨ o + 33 < j) : (prepS u o T x y z w).2.1 j = u.2.1 j := by
  unfold prepS
  rw [R_n (by omega), R_n (by omega), R_n (by omega), R_n (by omega)]
  rfl
theorem prepS_f {i : Nat} {x y z w : Int32} (h : i ≠ 100 * o + 11) : (prepS u o T x y z w).1 i = u.1 i := sF_n h
theorem prepS_30 {x y z w : Int32} : (prepS u o T x y z w).2.1 (o + 30) = upd (u.2.1 (o + 30)) (T + 1) x := by
  unfold prepS
  rw [R_n (by omega), R_n (by omega), R_n (by omega), R_s]
  rfl
theorem prepS_31 {x y z w : Int32} : (prepS u o T x y z w).2.1 (o + 31) = upd (u.2.1 (o + 31)) (T + 1) y := by
  unfold prepS
  rw [R_n (by omega), R_n (by omega), R_s, R_n (by omega)]
  rfl
theorem prepS_32 {x y z w : Int32} : (prepS u o T x y z w).2.1 (o + 32) = upd (u.2.1 (o + 32)) (T + 1) z := by
  unfold prepS
  rw [R_n (by omega), R_s, R_n (by omega), R_n (by omega)]
  rfl
theorem prepS_33 {x y z w : Int32} : (prepS u o T x y z w).2.1 (o + 33) = upd (u.2.1 (o + 33)) (T + 1) w := by
  unfold prepS
  rw [R_s, R_n (by omega), R_n (by omega), R_n (by omega)]
  rfl
theorem FS_prep {x y z w : Int32} : FS u (prepS u o T x y z w) o := ⟨rfl, fun j hj => prepS_n (by omega), fun i hi => prepS_f (by omega)⟩
theorem MD_start {x : Int32} (h : RunS u o T N R l) (hT : T < 3000) : MD (prepS u o T x (R T 130) (R T 131) (u.2.1 (o + 33) T)) o T N R l (upd (R T) 120 x) := by
  obtain ⟨h1, h2, h3, h4, h5⟩ := h
  have hP := PI_up (T' := T + 1) h4 (by omega) (by omega)
  have h13 : ∀ j, o + 12 + 1 ≤ j → j ≤ o + 12 + 6 → (prepS u o T x (R T 130) (R T 131) (u.2.1 (o + 33) T)).2.1 j = u.2.1 j := fun j j1 j2 => prepS_n (by omega)
  refine ⟨(prepS_f (by omega)).trans h1, hT, fun t ht => ?_, PI_c hP (prepS_f (by omega)) h13 (prepS_n (by omega)), ?_, fun t ht => ?_⟩
  · rcases Nat.lt_or_ge T t with y | y
    · have et : t = T + 1 := by omega
      subst et
      obtain ⟨-, -, -, d, k1, k2, k3, k4⟩ := h3 T (Nat.le_refl _)
      unfold SI KI
      simp only [Rx_gt y]
      rw [prepS_30, prepS_31, prepS_32, prepS_33, pk_us, pk_us, pk_us, pk_us, pk_us, pk_un (show 130 ≠ 120 by decide), pk_un (show 131 ≠ 120 by decide), pk_un (show 121 ≠ 120 by decide)]
      refine ⟨rfl, rfl, rfl, d, k1, k2, k3, fun e he => ?_⟩
      obtain ⟨s, b1, b2, b3, b4, b5⟩ := k4 e he
      exact ⟨s, by omega, b2, by rw [pk_un (by omega), pk_un (by omega)]; exact b3, by rw [Rx_le (by omega)]; exact b4, fun i hi => by rw [Rx_le (by omega), pk_un (by omega)]; exact b5 i hi⟩
    · exact SI_c (h3 t y) (fun s hs => by rw [prepS_30, pk_un (by omega)]) (by rw [prepS_31, pk_un (by omega)]) (by rw [prepS_32, pk_un (by omega)]) (by rw [prepS_33, pk_un (by omega)]) (fun s hs => Rx_le (by omega))
  · have := (h5 T (Nat.le_refl _)).1
    rw [show o + 13 = o + 12 + 1 from rfl, PI_all h4] at this
    exact PRow_hi (PRow_c this h13) (by omega)
  · rw [show (prepS u o T x (R T 130) (R T 131) (u.2.1 (o + 33) T)).2.1 (o + 13) = u.2.1 (o + 13) from prepS_n (by omega)]
    exact ⟨PRow_c (h5 t ht).1 h13, (h5 t ht).2⟩
/-- the step up to its order -/
theorem c_prep {cn : Nat} (h : RunS u o T N R l) (hT : T < 3000) (hc : R T 120 = nI cn) (hcn : cn ≤ 64) : g_X7_step F o u = ob (g_X8_perform F o (nI cn) (prepS u o T (imin 64 (R T 120 + 1)) (R T 130) (R T 131) (u.2.1 (o + 33) T))) (fun r37 => if r37.1 = 0 then g_X7_step_j121 F o (nI (T + 1)) r37.2 else lt1 (sF r37.2 o 10 (10 + r37.1)) (fun u53 => g_X7_step_j121 F o (nI (T + 1)) u53)) := by
  obtain ⟨h1, h2, h3, h4, h5⟩ := h
  obtain ⟨s1, s2, s3, -⟩ := h3 T (Nat.le_refl _)
  have hi : inb (nI (T + 1)) 3001 := inb_nI (by omega) (by decide)
  have hj : inb (nI T) 3001 := inb_nI (by omega) (by decide)
  have e9 : rF (sF u o 11 (-1)) o 9 = nI T := (sF_n (by omega)).trans h1
  have em : imin (R T 120 + 1) 64 = imin 64 (R T 120 + 1) := by
    rw [hc, nI_1]
    unfold imin
    by_cases q : cn = 64
    · subst q; decide
    · rw [if_neg (show ¬ (64 : Int32) < nI (cn + 1) from nI_nlt (a := 64) (b := cn + 1) (by omega) (by decide))]
      by_cases q2 : cn = 63
      · subst q2; decide
      · rw [if_pos (show nI (cn + 1) < 64 from nI_lt (a := cn + 1) (b := 64) (by omega) (by decide))]
  unfold g_X7_step
  rw [h1, if_neg (nI_pos (by omega)), nI_1, if_pos (show nI (T + 1) ≤ 3000 from nI_le (a := T + 1) (b := 3000) (by omega) (by decide)), lt1_i, e9, ck_t hj, ck_t hi, lt1_i, rA_nI (by omega), show (sF u o 11 (-1)).2.1 (o + 30) T = u.2.1 (o + 30) T from rfl, s1, em, sA_nI (k := T + 1) (by omega)]
  generalize ex : imin 64 (R T 120 + 1) = x
  have e9a : rF (rg_R (sF u o 11 (-1)) (o + 30) (T + 1) x) o 9 = nI T := e9
  rw [e9a, ck_t hj, ck_t hi, lt1_i, rA_nI (by omega), R_n (show o + 31 ≠ o + 30 by omega), show (sF u o 11 (-1)).2.1 (o + 31) T = u.2.1 (o + 31) T from rfl, s2, sA_nI (k := T + 1) (by omega)]
  have e9b : rF (rg_R (rg_R (sF u o 11 (-1)) (o + 30) (T + 1) x) (o + 31) (T + 1) (R T 130)) o 9 = nI T := e9
  rw [e9b, ck_t hj, ck_t hi, lt1_i, rA_nI (by omega), R_n (show o + 32 ≠ o + 31 by omega), R_n (show o + 32 ≠ o + 30 by omega), show (sF u o 11 (-1)).2.1 (o + 32) T = u.2.1 (o + 32) T from rfl, s3, sA_nI (k := T + 1) (by omega)]
  have e9c : rF (rg_R (rg_R (rg_R (sF u o 11 (-1)) (o + 30) (T + 1) x) (o + 31) (T + 1) (R T 130)) (o + 32) (T + 1) (R T 131)) o 9 = nI T := e9
  rw [e9c, ck_t hj, ck_t hi, lt1_i, rA_nI (by omega), R_n (show o + 33 ≠ o + 32 by omega), R_n (show o + 33 ≠ o + 31 by omega), R_n (show o + 33 ≠ o + 30 by omega), show (sF u o 11 (-1)).2.1 (o + 33) T = u.2.1 (o + 33) T from rfl, sA_nI (k := T + 1) (by omega)]
  have e9d : rF (rg_R (rg_R (rg_R (rg_R (sF u o 11 (-1)) (o + 30) (T + 1) x) (o + 31) (T + 1) (R T 130)) (o + 32) (T + 1) (R T 131)) (o + 33) (T + 1) (u.2.1 (o + 33) T)) o 9 = nI T := e9
  rw [e9d, ck_t hj, rA_nI (by omega)]
  have e30 : (rg_R (rg_R (rg_R (rg_R (sF u o 11 (-1)) (o + 30) (T + 1) x) (o + 31) (T + 1) (R T 130)) (o + 32) (T + 1) (R T 131)) (o + 33) (T + 1) (u.2.1 (o + 33) T)).2.1 (o + 30) T = nI cn := by
    show (prepS u o T x (R T 130) (R T 131) (u.2.1 (o + 33) T)).2.1 (o + 30) T = _
    rw [prepS_30, pk_un (by omega), s1, hc]
  rw [e30]
  rfl
end XR
