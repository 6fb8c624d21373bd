/-! last, watched, changed, when of the reference -/
def laA (u : rg_U) (r t p : Nat) : Int32 := if (rpm u r t).1 (80 + p) = 0 then -1 else nI (hvg (fun m => (rpm u r m).1 (80 + p) = (rpm u r t).1 (80 + p)) (costM u r) t 0 t).1
def laC (u : rg_U) (r t p : Nat) : Nat := costM u r t + (if (rpm u r t).1 (80 + p) = 0 then 0 else (hvg (fun m => (rpm u r m).1 (80 + p) = (rpm u r t).1 (80 + p)) (costM u r) t 0 t).2)
theorem aR_v {u v : rg_U} {q : Nat} {x : Int32} (h : coreEq (cS u q x) v) : aR v = aR u := (eq_c (r := 0) h).2.2.2.1
theorem m_lastOf {F K W r t p x : Nat} {u v : rg_U} (hv : coreEq (cS u r (nI x)) v) (hok : okM v K W) (ha : act u K r) (hr : aR u = r) (ht : t ≤ Tr u r) (ht3 : t ≤ 3000) (hp : p < 40) (hF : 10000 < F) : ∃ w, g_X10_lastOf F (nI t) (nI p) v = some (laA u r t p, w) ∧ coreEq (cS u r (nI (x + laC u r t p))) w ∧ okM w K W := by
  unfold g_X10_lastOf
  rw [m_ask hok.1, ob_i, aR_v hv, hr]
  obtain ⟨w, e1, e2, e3, e4⟩ := rep_more (t := t) hv hok ha ht hF
  rw [e1, ob_i, c80, ck_t (inb_nI (by omega) (by decide)), rA_nI (by omega), e4]
  unfold laA laC
  by_cases q : (rpm u r t).1 (80 + p) = 0
  · rw [if_pos q, if_pos q, if_pos q]
    exact ⟨w, rfl, e2, e3⟩
  · rw [if_neg q, if_neg q, if_neg q]
    obtain ⟨w', g1, g2, g3⟩ := m_hv (c := (rpm u r t).1 (80 + p)) (T := t) ha ht ht3 hp hF t 0 t (x + costM u r t) w e2 e3 (Nat.le_refl _) (by omega) (by omega) F (by omega)
    rw [show nI 0 = (0 : Int32) from rfl] at g1
    rw [g1, ob_i]
    exact ⟨w', rfl, by rw [← Nat.add_assoc]; exact g2, g3⟩
theorem Tr3 {u : rg_U} {K W r : Nat} (h : coreM u K W) (ha : act u K r) : Tr u r ≤ 3000 := (h.2.2.2.2.1 r ha).2.2.2.2.2.2.1.1.2.2.2.1
theorem m_last {F K W : Nat} {x y : Int32} {u : rg_U} (h : okM u K W) (hF : 10000 < F) : (¬ (isTm u x ∧ ¬ g_X10_isPlace y = 0) ∧ g_X10_last F x y u = some (-2, sF u 0 35 0) ∧ okM (sF u 0 35 0) K W) ∨ ∃ t p u', act u K (aR u) ∧ u.2.1 5 (aR u) = 1 ∧ t ≤ Tr u (aR u) ∧ x = nI t ∧ p < 40 ∧ y = nI p ∧ g_X10_last F x y u = some (laA u (aR u) t p, u') ∧ okM u' K W ∧ coreEq (cS (sF u 0 35 0) (aR u) (nI (laC u (aR u) t p))) u' := by
  have h0 : okM (sF u 0 35 0) K W := okM_34 (by omega) h
  unfold g_X10_last
  rw [lt1_i]
  rcases m_time (F := F) (x := x) h0.1 with ⟨q1, q2⟩ | ⟨t, q1, q2, q3, q4, rfl⟩
  · rw [q1, ob_i, if_pos rfl]
    exact Or.inl ⟨fun w => q2 w.1, rfl, h0⟩
  rw [q1, ob_i, if_neg one_n0]
  by_cases qp : g_X10_isPlace y = 0
  · rw [if_pos qp]; exact Or.inl ⟨fun w => w.2 qp, rfl, h0⟩
  rw [if_neg qp]
  obtain ⟨p, hp, rfl⟩ := isPl qp
  have hT3 : Tr u (aR u) ≤ 3000 := Tr3 h.1 q2
  obtain ⟨w, e1, e2, e3⟩ := m_lastOf (u := sF u 0 35 0) (x := 0) (r := aR u) (t := t) (p := p) rep_0 h0 q2 rfl q4 (Nat.le_trans q4 hT3) hp hF
  rw [Nat.zero_add] at e2
  rw [e1, ob_i]
  exact Or.inr ⟨t, p, w, q2, q3, q4, rfl, hp, rfl, rfl, e3, e2⟩
/-- the latest of the last changes of watched places below p, and what it costs -/
def wtA (u : rg_U) (r t : Nat) : Nat → Int32 × Nat
  | 0 => (-1, 0)
  | p + 1 => if u.2.1 30 p = 0 then wtA u r t p else (imax (wtA u r t p).1 (laA u r t p), (wtA u r t p).2 + laC u r t p)
theorem m_watched {F K W : Nat} {x : Int32} {u : rg_U} (h : okM u K W) (hF : 10000 < F) : (¬ (¬ x < 1 ∧ isTm u x) ∧ g_X10_watched F x u = some (-2, sF u 0 35 0) ∧ okM (sF u 0 35 0) K W) ∨ ∃ t u', act u K (aR u) ∧ u.2.1 5 (aR u) = 1 ∧ 1 ≤ t ∧ t ≤ Tr u (aR u) ∧ x = nI t ∧ g_X10_watched F x u = some ((wtA u (aR u) (t - 1) 40).1, u') ∧ okM u' K W ∧ coreEq (cS (sF u 0 35 0) (aR u) (nI (wtA u (aR u) (t - 1) 40).2)) u' := by
  have h0 : okM (sF u 0 35 0) K W := okM_34 (by omega) h
  unfold g_X10_watched
  rw [lt1_i]
  by_cases qx : x < 1
  · rw [if_pos qx]; exact Or.inl ⟨fun w => w.1 qx, rfl, h0⟩
  rw [if_neg qx]
  rcases m_time (F := F) (x := x) h0.1 with ⟨q1, q2⟩ | ⟨t, q1, q2, q3, q4, rfl⟩
  · rw [q1, ob_i, if_pos rfl]
    exact Or.inl ⟨fun w => q2 w.2, rfl, h0⟩
  rw [q1, ob_i, if_neg one_n0]
  have hT3 : Tr u (aR u) ≤ 3000 := Tr3 h.1 q2
  have q4' : t ≤ Tr u (aR u) := q4
  have ht1 : 1 ≤ t := by
    rcases Nat.eq_zero_or_pos t with z | z
    · subst z; exact absurd (by decide) qx
    · exact z
  obtain ⟨w, e, hw⟩ : ∃ w, lp (fun (s : Int32 × Int32 × rg_U) => g_X10_watched_l25 F (nI t) s.1 s.2.1 s.2.2) F ((-1 : Int32), (0 : Int32), sF u 0 35 0) = some ((wtA u (aR u) (t - 1) 40).1, w) ∧ coreEq (cS (sF u 0 35 0) (aR u) (nI (wtA u (aR u) (t - 1) 40).2)) w ∧ okM w K W := by
    have key := lp_ex (body := fun (s : Int32 × Int32 × rg_U) => g_X10_watched_l25 F (nI t) s.1 s.2.1 s.2.2) (P := fun k s => ∃ m, k + m = 40 ∧ s.1 = (wtA u (aR u) (t - 1) m).1 ∧ s.2.1 = nI m ∧ coreEq (cS (sF u 0 35 0) (aR u) (nI (wtA u (aR u) (t - 1) m).2)) s.2.2 ∧ okM s.2.2 K W) (R := fun q => q.1 = (wtA u (aR u) (t - 1) 40).1 ∧ coreEq (cS (sF u 0 35 0) (aR u) (nI (wtA u (aR u) (t - 1) 40).2)) q.2 ∧ okM q.2 K W) (by
      rintro k ⟨s1, s2, s3⟩ ⟨m, hm, b1, b2, b3, b4⟩
      dsimp only at b1 b2 b3 b4
      subst b1
      subst b2
      unfold g_X10_watched_l25 g_X10_watched_j53
      dsimp only
      by_cases q : m = 40
      · right
        subst q
        exact ⟨_, if_pos (by decide), rfl, b3, b4⟩
      · left
        have e30 : s3.2.1 30 m = u.2.1 30 m := by rw [b3.1 30 (by decide), cS_n (by decide)]; rfl
        rw [if_neg (show ¬ (40 : Int32) ≤ nI m from nI_ge (a := m) (b := 40) (by omega) (by decide)), ck_t (inb_nI (by omega) (by decide)), rA_nI (by omega), e30, show nI t - 1 = nI (t - 1) from nI_sub (a := t) (b := 1) ht1, nI_1]
        by_cases z : u.2.1 30 m = 0
        · rw [if_pos z]
          have ew : wtA u (aR u) (t - 1) (m + 1) = wtA u (aR u) (t - 1) m := if_pos z
          exact ⟨_, k - 1, rfl, by omega, m + 1, by omega, by rw [ew], rfl, by rw [ew]; exact b3, b4⟩
        · rw [if_neg z]
          have ew : wtA u (aR u) (t - 1) (m + 1) = (imax (wtA u (aR u) (t - 1) m).1 (laA u (aR u) (t - 1) m), (wtA u (aR u) (t - 1) m).2 + laC u (aR u) (t - 1) m) := if_neg z
          obtain ⟨w, g1, g2, g3⟩ := m_lastOf (u := sF u 0 35 0) (r := aR u) (t := t - 1) (p := m) b3 b4 q2 rfl (by show t - 1 ≤ Tr u (aR u); omega) (by omega) (by omega) hF
          rw [g1, ob_i]
          exact ⟨_, k - 1, rfl, by omega, m + 1, by omega, by rw [ew]; rfl, rfl, by rw [ew]; exact g2, g3⟩) F 40 ((-1 : Int32), (0 : Int32), sF u 0 35 0) (by omega) ⟨0, rfl, rfl, rfl, rep_0, h0⟩
    obtain ⟨⟨c1, c2⟩, d1, d2, d3, d4⟩ := key
    dsimp only at d2 d3 d4
    subst d2
    exact ⟨c2, d1, d3, d4⟩
  rw [e, ob_i]
  exact Or.inr ⟨t, w, q2, q3, ht1, q4, rfl, rfl, hw.2, hw.1⟩
/-! when: what lies between two times -/
def hdA (f : Nat → Prop) [∀ m, Decidable (f m)] (a : Nat) : Nat → Int32
  | 0 => -1
  | k + 1 => if f (a + k) then nI (a + k) else hdA f a k
theorem lay_more {F K W r t : Nat} {v : rg_U} (hok : okM v K W) (ha : act v K r) (ht : t ≤ Tr v r) (hF : 10000 < F) : ∃ w, g_X10_lays F (nI r) (nI t) v = some w ∧ coreEq v w ∧ okM w K W ∧ w.2.1 31 = (rpm v r t).1 := by
  obtain ⟨a, b, c, e⟩ := lay_all hok.1 hok.2 ha ht hF
  exact ⟨_, e, coreEq_sX, ⟨core_eq coreEq_sX hok.1, simM_lay hok.1 hok.2 ha ht⟩, sX_A⟩
theorem eq_c0 {u v : rg_U} {r : Nat} (h : coreEq u v) : (∀ t, rpm v r t = rpm u r t) ∧ (∀ t, costM v r t = costM u r t) ∧ Tr v r = Tr u r ∧ v.2.1 5 = u.2.1 5 := by
  refine ⟨fun t => rpm_c h.1, fun t => ?_, Tr_c h.1, h.1 5 (by decide)⟩
  unfold costM Hm Ur Tr
  rw [h.1 20 (by decide), h.1 21 (by decide), h.1 23 (by decide)]
theorem act_0 {u v : rg_U} {K r : Nat} (h : coreEq u v) (ha : act u K r) : act v K r := (act_c h.1).mpr ha
theorem beg_more {F K W r : Nat} {v : rg_U} (hok : okM v K W) (ha : act v K r) (hF : 10000 < F) : ∃ w, g_X10_simBegins F (nI r) v = some w ∧ coreEq v w ∧ okM w K W ∧ w.2.1 31 = (rpm v r 0).1 ∧ w.1 41 = nI r ∧ w.1 42 = nI (rpm v r 0).2 := by
  have hro := hok.1.2.2.2.2.1 r ha
  obtain ⟨a, b, c, e⟩ := m_simBegins (act5 hok.1.1.2.1 ha) hro.1 hro.2.2.2.2.2.2.1.1 hok.2.2.2.2.1 hF
  exact ⟨_, e, coreEq_sX, ⟨core_eq coreEq_sX hok.1, simM_lay hok.1 hok.2 ha (Nat.zero_le _)⟩, sX_A, sX_41, sX_42⟩
theorem m_hadIn {F K W r a b p : Nat} {s n : Int32} {v : rg_U} (hok : okM v K W) (ha : act v K r) (hab : a ≤ b) (hb : b ≤ Tr v r) (hp : p < 40) (hF : 10000 < F) : ∃ w, g_X10_hadIn F (nI r) (nI a) (nI b) (nI p) s n v = some (hdA (fun m => (rpm v r m).1 p = s ∧ (rpm v r m).1 (40 + p) = n) a (b - a + 1), w) ∧ coreEq v w ∧ okM w K W := by
  have hT3 := Tr3 hok.1 ha
  unfold g_X10_hadIn
  obtain ⟨w1, e1, c1, k1, -⟩ := beg_more hok ha hF
  rw [e1, ob_i]
  obtain ⟨w2, e2, c2, k2, -⟩ := lay_more (t := a) k1 (act_0 c1 ha) (by rw [(eq_c0 (r := r) c1).2.2.1]; omega) hF
  rw [e2, ob_i]
  have key := lp_ex (body := fun (q : Int32 × Int32 × rg_U) => g_X10_hadIn_l17 F (nI r) (nI b) (nI p) s n q.1 q.2.1 q.2.2) (P := fun k q => ∃ m, k + m = b - a + 1 ∧ q.1 = hdA (fun m => (rpm v r m).1 p = s ∧ (rpm v r m).1 (40 + p) = n) a m ∧ q.2.1 = nI (a + m) ∧ coreEq v q.2.2 ∧ okM q.2.2 K W) (R := fun q => q.1 = hdA (fun m => (rpm v r m).1 p = s ∧ (rpm v r m).1 (40 + p) = n) a (b - a + 1) ∧ coreEq v q.2 ∧ okM q.2 K W) (by
    rintro k ⟨s1, s2, s3⟩ ⟨m, hm, b1, b2, b3, b4⟩
    dsimp only at b1 b2 b3 b4
    subst b1
    subst b2
    unfold g_X10_hadIn_l17 g_X10_hadIn_j63
    dsimp only
    by_cases q : m = b - a + 1
    · right
      exact ⟨_, if_pos (nI_lt (by omega) (by omega)), by rw [q], b3, b4⟩
    · left
      obtain ⟨w, g1, g2, g3, g4⟩ := lay_more (t := a + m) b4 (act_0 b3 ha) (by rw [(eq_c0 (r := r) b3).2.2.1]; omega) hF
      rw [(eq_c0 (r := r) b3).1] at g4
      rw [if_neg (nI_nlt (by omega) (by omega)), g1, ob_i, c0, c40, ck_t (inb_nI (by omega) (by decide)), ck_t (inb_nI (by omega) (by decide)), rA_nI (by omega), rA_nI (by omega), g4, nI_1]
      have c3 := coreEq_t b3 g2
      by_cases z1 : (rpm v r (a + m)).1 p = s
      · rw [if_pos z1]
        by_cases z2 : (rpm v r (a + m)).1 (40 + p) = n
        · rw [if_pos z2]
          exact ⟨_, k - 1, rfl, by omega, m + 1, by omega, (if_pos ⟨z1, z2⟩).symm, rfl, c3, g3⟩
        · rw [if_neg z2]
          exact ⟨_, k - 1, rfl, by omega, m + 1, by omega, (if_neg (fun w => z2 w.2)).symm, rfl, c3, g3⟩
      · rw [if_neg z1]
        exact ⟨_, k - 1, rfl, by omega, m + 1, by omega, (if_neg (fun w => z1 w.1)).symm, rfl, c3, g3⟩) F (b - a + 1) ((-1 : Int32), nI a, w2) (by omega) ⟨0, by omega, rfl, rfl, coreEq_t c1 c2, k2⟩
  obtain ⟨⟨d0, d1⟩, d2, d3, d4, d5⟩ := key
  dsimp only at d3 d4 d5
  subst d3
  rw [d2, ob_i]
  exact ⟨d1, rfl, d4, d5⟩
