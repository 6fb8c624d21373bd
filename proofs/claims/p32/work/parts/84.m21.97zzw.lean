section W_88
-- 97zzw.parts
/-! the class and the reference: parts -/
section YN
variable {pB : Prop} {F K W o o1 o2 r r1 r2 q T N T1 T2 N1 N2 : Nat} {u uc um v w : rg_U} {x y z : Int32} {A B : Nat → Row} {l1 l2 : Nat → Nat}
theorem RunS_ly (h : RunS uc o T N A l1) (hu : lyX uc u) (ho : 116 ≤ o) : RunS u o T N A l1 := by
  obtain ⟨b1, b2, b3, b4, b5⟩ := h
  have ha : ∀ j, 115 ≤ j → u.2.1 j = uc.2.1 j := fun j hj => hu.2.1 j (Or.inr hj)
  refine ⟨(hu.2.2 _ (by omega)).trans b1, b2, fun t ht => SI_c (b3 t ht) (fun s _ => by rw [ha _ (by omega)]) (by rw [ha _ (by omega)]) (by rw [ha _ (by omega)]) (by rw [ha _ (by omega)]) (fun _ _ => rfl), PI_c b4 (hu.2.2 _ (by omega)) (fun j j1 j2 => ha j (by omega)) (ha _ (by omega)), fun t ht => ?_⟩
  rw [ha (o + 13) (by omega)]
  exact ⟨PRow_c (b5 t ht).1 (fun j j1 j2 => ha j (by omega)), (b5 t ht).2⟩
theorem c_stl (h1 : RunS u o1 T1 N1 A l1) (h2 : RunS u o2 T2 N2 B l2) : ∀ (d1 i t1 t2 d2 : Nat), t1 ≤ T1 → t2 ≤ T2 → A t1 121 = nI d1 → B t2 121 = nI d2 → i + d1 ≤ 8 → i + d2 ≤ 8 → ∀ G, d1 < G → ∃ y x, lp (fun (z : Int32 × Int32 × Int32) => g_X7_hasStackLike_l16 F o1 o2 u z.1 z.2.1 z.2.2) G (u.2.1 (o1 + 33) t1, u.2.1 (o2 + 33) t2, nI i) = some y ∧ os y (fun _ => some (0 : Int32)) (fun r => g_X7_hasStackLike_j70 F r.1 r.2 u) = some x ∧ (¬ x = 0 ↔ (d1 = d2 ∧ ∀ e, e < d1 → A t1 (122 + e) = B t2 (122 + e)))
  | d1, i, t1, t2, d2, ht1, ht2, e1, e2, hd1, hd2, 0, hG => by omega
  | 0, i, t1, t2, d2, ht1, ht2, e1, e2, hd1, hd2, G + 1, hG => by
    obtain ⟨da, a1, a2, a3, -⟩ := (h1.2.2.1 t1 ht1).2.2.2
    have eda : da = 0 := nI_inj (by omega) (by omega) (a2.symm.trans e1)
    have hb : g_X7_hasStackLike_l16 F o1 o2 u (u.2.1 (o1 + 33) t1) (u.2.1 (o2 + 33) t2) (nI i) = some (.inr (Sum.inr (-1, u.2.1 (o2 + 33) t2))) := by
      unfold g_X7_hasStackLike_l16
      rw [a3 eda]
      by_cases w : (8 : Int32) ≤ nI i
      · rw [if_pos w]
      · rw [if_neg w, if_pos rfl]
    obtain ⟨db, b1, b2, b3, b4⟩ := (h2.2.2.1 t2 ht2).2.2.2
    have edb : db = d2 := nI_inj (by omega) (by omega) (b2.symm.trans e2)
    subst edb
    match db, b3, b4 with
    | 0, b3, b4 =>
      refine ⟨_, 1, lp_r hb, ?_, ⟨fun _ => ⟨rfl, fun e he => by omega⟩, fun _ => by decide⟩⟩
      show g_X7_hasStackLike_j70 F (-1) (u.2.1 (o2 + 33) t2) u = _
      unfold g_X7_hasStackLike_j70
      rw [if_pos rfl, if_pos (b3 rfl)]
    | e + 1, b3, b4 =>
      obtain ⟨s, c1, c2, -⟩ := b4 e rfl
      refine ⟨_, 0, lp_r hb, ?_, ⟨fun w => absurd rfl w, fun w => by have := w.1; omega⟩⟩
      show g_X7_hasStackLike_j70 F (-1) (u.2.1 (o2 + 33) t2) u = _
      unfold g_X7_hasStackLike_j70
      rw [if_pos rfl, c2, if_neg (nI_m1 (by have := h2.2.1; omega))]
  | n1 + 1, i, t1, t2, d2, ht1, ht2, e1, e2, hd1, hd2, G + 1, hG => by
    have hT1 := h1.2.1
    have hT2 := h2.2.1
    obtain ⟨da, a1, a2, -, a4⟩ := (h1.2.2.1 t1 ht1).2.2.2
    have eda : da = n1 + 1 := nI_inj (by omega) (by omega) (a2.symm.trans e1)
    obtain ⟨s1, c1, c2, c3, c4, c5⟩ := a4 n1 eda
    obtain ⟨db, b1, b2, b3, b4⟩ := (h2.2.2.1 t2 ht2).2.2.2
    have edb : db = d2 := nI_inj (by omega) (by omega) (b2.symm.trans e2)
    have h8 : ¬ (8 : Int32) ≤ nI i := nI_ge (a := i) (b := 8) (by omega) (by decide)
    match d2, e2, hd2, edb with
    | 0, e2, hd2, edb =>
      have hb : g_X7_hasStackLike_l16 F o1 o2 u (u.2.1 (o1 + 33) t1) (u.2.1 (o2 + 33) t2) (nI i) = some (.inr (Sum.inr (nI s1, -1))) := by
        unfold g_X7_hasStackLike_l16
        rw [c2, b3 edb, if_neg h8, if_neg (nI_m1 (by omega)), if_pos rfl]
      refine ⟨_, 0, lp_r hb, ?_, ⟨fun w => absurd rfl w, fun w => by have := w.1; omega⟩⟩
      show g_X7_hasStackLike_j70 F (nI s1) (-1) u = _
      unfold g_X7_hasStackLike_j70
      rw [if_neg (nI_m1 (by omega))]
    | n2 + 1, e2, hd2, edb =>
      obtain ⟨s2, f1, f2, f3, f4, f5⟩ := b4 n2 edb
      by_cases w : u.2.1 (o1 + 30) s1 = u.2.1 (o2 + 30) s2
      · have hb : g_X7_hasStackLike_l16 F o1 o2 u (u.2.1 (o1 + 33) t1) (u.2.1 (o2 + 33) t2) (nI i) = some (.inl (u.2.1 (o1 + 33) s1, u.2.1 (o2 + 33) s2, nI (i + 1))) := by
          unfold g_X7_hasStackLike_l16
          rw [c2, f2, if_neg h8, if_neg (nI_m1 (by omega)), if_neg (nI_m1 (by omega)), x7_counter h1.1 hT1 (by omega), ob_i, x7_counter h2.1 hT2 (by omega), ob_i, if_pos w, x7_top h1.1 hT1 (by omega), ob_i, x7_top h2.1 hT2 (by omega), ob_i, nI_1]
        obtain ⟨y, x, g1, g2, g3⟩ := c_stl h1 h2 n1 (i + 1) s1 s2 n2 (by omega) (by omega) c4 f4 (by omega) (by omega) G (by omega)
        refine ⟨y, x, (lp_l (body := fun (z : Int32 × Int32 × Int32) => g_X7_hasStackLike_l16 F o1 o2 u z.1 z.2.1 z.2.2) (s := (u.2.1 (o1 + 33) t1, u.2.1 (o2 + 33) t2, nI i)) hb).trans g1, g2, g3.trans ⟨fun ⟨k1, k2⟩ => ⟨by omega, fun e he => ?_⟩, fun ⟨k1, k2⟩ => ⟨by omega, fun e he => ?_⟩⟩⟩
        · by_cases z : e = n1
          · subst z
            subst k1
            rw [c3, f3, w]
          · rw [← c5 e (by omega), ← f5 e (by omega)]
            exact k2 e (by omega)
        · rw [c5 e he, f5 e (by omega)]
          exact k2 e (by omega)
      · have hb : g_X7_hasStackLike_l16 F o1 o2 u (u.2.1 (o1 + 33) t1) (u.2.1 (o2 + 33) t2) (nI i) = some (.inr (Sum.inl ())) := by
          unfold g_X7_hasStackLike_l16
          rw [c2, f2, if_neg h8, if_neg (nI_m1 (by omega)), if_neg (nI_m1 (by omega)), x7_counter h1.1 hT1 (by omega), ob_i, x7_counter h2.1 hT2 (by omega), ob_i, if_neg w]
        refine ⟨_, 0, lp_r hb, rfl, ⟨fun w => absurd rfl w, fun ⟨k1, k2⟩ => ?_⟩⟩
        have k3 : n1 = n2 := by omega
        subst k3
        have := k2 n1 (by omega)
        rw [c3, f3] at this
        exact absurd (by first | exact (Int32.add_left_inj _).mp this | exact (by have h := congrArg (fun z => z - 1) this; simpa [Int32.add_sub_cancel] using h)) w
theorem c_stack {t : Nat} (h1 : RunS u o1 T1 N1 A l1) (h2 : RunS u o2 T2 N2 B l2) (ht1 : t ≤ T1) (ht2 : t ≤ T2) (hF : 10000 < F) : ∃ x, g_X7_hasStackLike F o1 (nI t) o2 u = some x ∧ (¬ x = 0 ↔ (A t 121 = B t 121 ∧ ∀ e, e < tn (B t 121) → A t (122 + e) = B t (122 + e))) := by
  obtain ⟨da, a1, a2, -, -⟩ := (h1.2.2.1 t ht1).2.2.2
  obtain ⟨db, b1, b2, -, -⟩ := (h2.2.2.1 t ht2).2.2.2
  obtain ⟨y, x, g1, g2, g3⟩ := c_stl (F := F) h1 h2 da 0 t t db ht1 ht2 a2 b2 (by omega) (by omega) F (by omega)
  rw [show nI 0 = (0 : Int32) from rfl] at g1
  refine ⟨x, ?_, g3.trans ?_⟩
  · unfold g_X7_hasStackLike
    rw [x7_top h1.1 h1.2.1 ht1, ob_i, x7_top h2.1 h2.2.1 ht2, ob_i, g1, ob_i]
    exact g2
  · rw [a2, b2, tnn (by omega)]
    constructor
    · rintro ⟨rfl, k⟩; exact ⟨rfl, k⟩
    · rintro ⟨k1, k2⟩
      have := nI_inj (by omega) (by omega) k1
      subst this
      exact ⟨rfl, k2⟩
/-- the puts by k are gone through -/
theorem c_gol {a k : Nat} (hP : PI uc q T N) (hq : 116 ≤ q) (ha : a = 113 ∨ a = 114) (hk : k ≤ 3000) : ∀ (f c : Nat) (u : rg_U), c + f = cP (uc.2.1 (q + 1)) k N → lyX uc u → (∀ p, p < 40 → u.2.1 a p = lat (uc.2.1 (q + 2)) p c) → ∀ G, f < G → ∃ w, lp (fun (s : Int32 × rg_U) => g_X0_goThrough_l3 F q a 40 (nI k) s.1 s.2) G (nI c, u) = some (nI (c + f), w) ∧ lyX uc w ∧ (∀ j, j ≠ a → w.2.1 j = u.2.1 j) ∧ ∀ p, p < 40 → w.2.1 a p = lat (uc.2.1 (q + 2)) p (c + f)
  | f, c, u, hc, hu, hl, 0, hG => by omega
  | 0, c, u, hc, hu, hl, G + 1, hG => by
    obtain ⟨hN, h8, hT, hm, -, hx⟩ := id hP
    have hle := cP_le (pt := uc.2.1 (q + 1)) (t := k) N
    have e11 : rF u q 11 = nI N := (hu.2.2 _ (by omega)).trans hN
    have hb : g_X0_goThrough_l3 F q a 40 (nI k) (nI c) u = some (.inr (nI c, u)) := by
      unfold g_X0_goThrough_l3
      by_cases w : c < N
      · obtain ⟨τ, p', d1, d2, d3, d4, -⟩ := hx c w
        have := cP_iff (t := k) N hm c w
        rw [d3, tnn (by omega)] at this
        rw [e11, if_neg (nI_ge w (by omega)), x6_time e11 h8 (Or.inr ⟨c, w, rfl⟩), ob_i, vS_n (by omega), hu.2.1 _ (by omega), d3, if_pos (nI_lt (by omega) (by omega))]
      · rw [e11, if_pos (nI_le (by omega) (by omega))]
    exact ⟨u, lp_r hb, hu, fun _ _ => rfl, hl⟩
  | f + 1, c, u, hc, hu, hl, G + 1, hG => by
    obtain ⟨hN, h8, hT, hm, -, hx⟩ := id hP
    have hle := cP_le (pt := uc.2.1 (q + 1)) (t := k) N
    have w : c < N := by omega
    have e11 : rF u q 11 = nI N := (hu.2.2 _ (by omega)).trans hN
    obtain ⟨τ, p', d1, d2, d3, d4, -⟩ := hx c w
    have hi := cP_iff (t := k) N hm c w
    rw [d3, tnn (by omega)] at hi
    have hb : g_X0_goThrough_l3 F q a 40 (nI k) (nI c) u = some (.inl (nI (c + 1), rg_R u a p' (nI c))) := by
      unfold g_X0_goThrough_l3 g_X0_goThrough_j48
      rw [e11, if_neg (nI_ge w (by omega)), x6_time e11 h8 (Or.inr ⟨c, w, rfl⟩), ob_i, vS_n (by omega), hu.2.1 (q + 1) (by omega), d3, if_neg (nI_nlt (by omega) (by omega)), x6_place e11 h8 (Or.inr ⟨c, w, rfl⟩), ob_i, vS_n (by omega), hu.2.1 (q + 2) (by omega), d4, if_neg (nI_pos (by omega)), if_neg (show ¬ Int32.ofNat 40 ≤ nI p' from nI_ge (a := p') (b := 40) (by omega) (by decide)), ck_t (inb_nI (by omega) (by decide)), lt1_i, sA_nI (by omega), nI_1]
    obtain ⟨w', g1, g2, g3, g4⟩ := c_gol hP hq ha hk f (c + 1) (rg_R u a p' (nI c)) (by omega) (ly_R hu (by omega)) (fun p hp => by
      rw [R_at]
      by_cases z : p = p'
      · rw [if_pos ⟨rfl, z⟩, z, lat_y d4]
      · rw [if_neg (fun y => z y.2), lat_n (fun y => z (nI_inj (by omega) (by omega) (d4.symm.trans y)).symm), hl p hp]) G (by omega)
    rw [show c + 1 + f = c + (f + 1) by omega] at g1 g4
    exact ⟨w', (lp_l (body := fun (s : Int32 × rg_U) => g_X0_goThrough_l3 F q a 40 (nI k) s.1 s.2) (s := (nI c, u)) hb).trans g1, g2, fun j hj => (g3 j hj).trans (R_n hj), g4⟩
theorem c_go {a k c : Nat} (hP : PI uc q T N) (hq : 116 ≤ q) (ha : a = 113 ∨ a = 114) (hk : k ≤ 3000) (hu : lyX uc u) (hc : c ≤ cP (uc.2.1 (q + 1)) k N) (hl : ∀ p, p < 40 → u.2.1 a p = lat (uc.2.1 (q + 2)) p c) (hF : 10000 < F) : ∃ w, g_X0_goThrough F q (nI c) (nI k) a 40 u = some (nI (cP (uc.2.1 (q + 1)) k N), w) ∧ lyX uc w ∧ (∀ j, j ≠ a → w.2.1 j = u.2.1 j) ∧ ∀ p, p < 40 → w.2.1 a p = lat (uc.2.1 (q + 2)) p (cP (uc.2.1 (q + 1)) k N) := by
  have h8 := hP.2.1
  have hle := cP_le (pt := uc.2.1 (q + 1)) (t := k) N
  obtain ⟨w, g1, g2, g3, g4⟩ := c_gol (F := F) hP hq ha hk (cP (uc.2.1 (q + 1)) k N - c) c u (by omega) hu hl F (by omega)
  rw [show c + (cP (uc.2.1 (q + 1)) k N - c) = cP (uc.2.1 (q + 1)) k N by omega] at g1 g4
  refine ⟨w, ?_, g2, g3, g4⟩
  unfold g_X0_goThrough
  rw [g1, ob_i]
/-- both rows hold the same at place p -/
def eqV (a b : Row) (p : Nat) : Prop := a p = b p ∧ a (40 + p) = b (40 + p)
theorem c_arel {a b : Row} {q1 q2 d : Nat} (hP : PI u q T N) (hd : d ≤ N) (hv : ∀ p, p < 40 → ∀ s n, g_X6_hasValue F q1 (u.2.1 113 p) s n u = some (if a p = s ∧ a (40 + p) = n then 1 else 0)) (hs : ∀ p, p < 40 → g_X6_sortOf F q2 (u.2.1 114 p) u = some (b p)) (hn : ∀ p, p < 40 → g_X6_numberOf F q2 (u.2.1 114 p) u = some (b (40 + p))) : ∀ (f c : Nat), c + f = d → ∀ G, f < G → ∃ y x, lp (fun (s : Int32) => g_X0_areUnlike_l3 F q q1 q2 (nI d) u s) G (nI c) = some y ∧ os y (fun _ => some (1 : Int32)) (fun _ => some 0) = some x ∧ (x = 0 ↔ ∀ i, c ≤ i → i < d → ∀ p, p < 40 → u.2.1 (q + 2) i = nI p → eqV a b p)
  | f, c, hc, 0, hG => by omega
  | 0, c, hc, G + 1, hG => by
    have h8 := hP.2.1
    have hb : g_X0_areUnlike_l3 F q q1 q2 (nI d) u (nI c) = some (.inr (Sum.inr ())) := by
      unfold g_X0_areUnlike_l3
      rw [if_pos (nI_le (by omega) (by omega))]
    exact ⟨_, 0, lp_r hb, rfl, ⟨fun _ i h1 h2 => by omega, fun _ => rfl⟩⟩
  | f + 1, c, hc, G + 1, hG => by
    obtain ⟨hN, h8, hT, hm, -, hx⟩ := id hP
    obtain ⟨τ, p', d1, d2, d3, d4, -⟩ := hx c (by omega)
    have hb : g_X0_areUnlike_l3 F q q1 q2 (nI d) u (nI c) = if a p' = b p' ∧ a (40 + p') = b (40 + p') then some (.inl (nI (c + 1))) else some (.inr (Sum.inl ())) := by
      unfold g_X0_areUnlike_l3 g_X0_areUnlike_j65
      rw [if_neg (nI_ge (by omega) (by omega)), x6_place hN h8 (Or.inr ⟨c, by omega, rfl⟩), ob_i, vS_n (by omega), d4, if_neg (by rw [cl_place]; exact in_nI (a := 0) (b := 39) (by omega) (by omega) (by decide)), ck_t (inb_nI (by omega) (by decide)), ck_t (inb_nI (by omega) (by decide)), rA_nI (by omega), rA_nI (by omega), hs p' d2, ob_i, hn p' d2, ob_i, hv p' d2, ob_i, nI_1]
      by_cases w : a p' = b p' ∧ a (40 + p') = b (40 + p')
      · rw [if_pos w, if_neg one_n0, if_pos w]
      · rw [if_neg w, if_pos rfl, if_neg w]
    by_cases w : a p' = b p' ∧ a (40 + p') = b (40 + p')
    · rw [if_pos w] at hb
      obtain ⟨y, x, g1, g2, g3⟩ := c_arel hP hd hv hs hn f (c + 1) (by omega) G (by omega)
      refine ⟨y, x, (lp_l (body := fun (s : Int32) => g_X0_areUnlike_l3 F q q1 q2 (nI d) u s) (s := nI c) hb).trans g1, g2, g3.trans ⟨fun h i i1 i2 p hp e => ?_, fun h i i1 i2 p hp e => h i (by omega) i2 p hp e⟩⟩
      by_cases z : i = c
      · subst z
        have := nI_inj (by omega) (by omega) (d4.symm.trans e)
        subst this
        exact w
      · exact h i (by omega) i2 p hp e
    · rw [if_neg w] at hb
      exact ⟨_, 1, lp_r hb, rfl, ⟨fun h => absurd h (by decide), fun h => absurd (h c (Nat.le_refl _) (by omega) p' d2 d4) w⟩⟩
theorem c_are {a b : Row} {q1 q2 c d : Nat} (hP : PI u q T N) (hd : d ≤ N) (hc : c ≤ d) (hv : ∀ p, p < 40 → ∀ s n, g_X6_hasValue F q1 (u.2.1 113 p) s n u = some (if a p = s ∧ a (40 + p) = n then 1 else 0)) (hs : ∀ p, p < 40 → g_X6_sortOf F q2 (u.2.1 114 p) u = some (b p)) (hn : ∀ p, p < 40 → g_X6_numberOf F q2 (u.2.1 114 p) u = some (b (40 + p))) (hF : 10000 < F) : ∃ x, g_X0_areUnlike F q (nI c) (nI d) q1 q2 u = some x ∧ (x = 0 ↔ ∀ i, c ≤ i → i < d → ∀ p, p < 40 → u.2.1 (q + 2) i = nI p → eqV a b p) := by
  have h8 := hP.2.1
  obtain ⟨y, x, g1, g2, g3⟩ := c_arel (F := F) (q1 := q1) (q2 := q2) hP hd hv hs hn (d - c) c (by omega) F (by omega)
  refine ⟨x, ?_, g3⟩
  unfold g_X0_areUnlike
  rw [g1, ob_i]
  exact g2
/-- how many puts came ahead of k -/
def pc (pt : Nat → Int32) (N k : Nat) : Nat := if k = 0 then 0 else cP pt (k - 1) N
theorem pc_le {pt : Nat → Int32} {N k : Nat} : pc pt N k ≤ cP pt k N := by
  unfold pc
  split
  · exact Nat.zero_le _
  · exact cP_mono (by omega) N
theorem pc_s {pt : Nat → Int32} {N k : Nat} : pc pt N (k + 1) = cP pt k N := if_neg (by omega)
/-- a place that no put came to between c and d -/
theorem lat_same {pp : Nat → Int32} {p c d : Nat} (h : c ≤ d) (hn : ¬ ∃ i, c ≤ i ∧ i < d ∧ pp i = nI p) : lat pp p d = lat pp p c := lat_skip d h (fun i i1 i2 e => hn ⟨i, i1, i2, e⟩)
theorem c_ful {M : Nat} (h1 : RunS uc o1 T1 N1 A l1) (h2 : RunS uc o2 T2 N2 B l2) (ho1 : 116 ≤ o1) (ho2 : 116 ≤ o2) (hM1 : M ≤ T1) (hM2 : M ≤ T2) (hF : 10000 < F) : ∀ (f k : Nat) (u : rg_U), k + f = M + 1 → lyX uc u → (∀ p, p < 40 → u.2.1 113 p = lat (uc.2.1 (o1 + 12 + 2)) p (pc (uc.2.1 (o1 + 12 + 1)) N1 k)) → (∀ p, p < 40 → u.2.1 114 p = lat (uc.2.1 (o2 + 12 + 2)) p (pc (uc.2.1 (o2 + 12 + 1)) N2 k)) → (∀ j, j < k → sLk (B j) (A j)) → ∀ G, f < G → ∃ y x w, lp (fun (s : Int32 × Int32 × Int32 × rg_U) => g_X0_firstUnlike_l37 F o1 o2 (nI M) s.1 s.2.1 s.2.2.1 s.2.2.2) G (nI (pc (uc.2.1 (o1 + 12 + 1)) N1 k), nI (pc (uc.2.1 (o2 + 12 + 1)) N2 k), nI k, u) = some y ∧ os y (fun r => some (r.1, r.2)) (fun r => some ((-1 : Int32), r)) = some (x, w) ∧ ((x = -1 ∧ ∀ j, j ≤ M → sLk (B j) (A j)) ∨ ∃ j, j ≤ M ∧ x = nI j ∧ ¬ sLk (B j) (A j) ∧ ∀ i, i < j → sLk (B i) (A i)) ∧ lyX uc w
  | f, k, u, hf, hu, ha, hb, hl, 0, hG => by omega
  | 0, k, u, hf, hu, ha, hb, hl, G + 1, hG => by
    have hT1 := h1.2.1
    have hbd : g_X0_firstUnlike_l37 F o1 o2 (nI M) (nI (pc (uc.2.1 (o1 + 12 + 1)) N1 k)) (nI (pc (uc.2.1 (o2 + 12 + 1)) N2 k)) (nI k) u = some (.inr (Sum.inr u)) := by
      unfold g_X0_firstUnlike_l37
      rw [if_pos (nI_lt (by omega) (by omega))]
    exact ⟨_, -1, u, lp_r hbd, rfl, Or.inl ⟨rfl, fun j hj => hl j (by omega)⟩, hu⟩
  | f + 1, k, u, hf, hu, ha, hb, hl, G + 1, hG => by
    have hT1 := h1.2.1
    have hT2 := h2.2.1
    have hP1 := h1.2.2.2.1
    have hP2 := h2.2.2.2.1
    obtain ⟨w1, g1, g2, g3, g4⟩ := c_go (F := F) (k := k) hP1 (show 116 ≤ o1 + 12 by omega) (Or.inl rfl) (by omega) hu (pc_le (N := N1) (k := k)) ha hF
    obtain ⟨w2, g5, g6, g7, g8⟩ := c_go (F := F) (k := k) hP2 (show 116 ≤ o2 + 12 by omega) (Or.inr rfl) (by omega) g2 (pc_le (N := N2) (k := k)) (fun p hp => by rw [g3 114 (by omega)]; exact hb p hp) hF
    have g4' : ∀ p, p < 40 → w2.2.1 113 p = lat (uc.2.1 (o1 + 12 + 2)) p (cP (uc.2.1 (o1 + 12 + 1)) k N1) := fun p hp => by rw [g7 113 (by omega)]; exact g4 p hp
    have R1 := RunS_ly h1 g6 ho1
    have R2 := RunS_ly h2 g6 ho2
    have P1 := R1.2.2.2.1
    have P2 := R2.2.2.2.1
    have k1 : k ≤ T1 := by omega
    have k2 : k ≤ T2 := by omega
    have rowA : ∀ t, t ≤ T1 → PRow uc (o1 + 12) (cP (uc.2.1 (o1 + 12 + 1)) t N1) (A t) := fun t ht => (h1.2.2.2.2 t ht).1
    have rowB : ∀ t, t ≤ T2 → PRow uc (o2 + 12) (cP (uc.2.1 (o2 + 12 + 1)) t N2) (B t) := fun t ht => (h2.2.2.2.2 t ht).1
    have aw : ∀ j, 115 ≤ j → w2.2.1 j = uc.2.1 j := fun j hj => g6.2.1 j (Or.inr hj)
    have hv : ∀ p, p < 40 → ∀ s n, g_X6_hasValue F (o1 + 12) (w2.2.1 113 p) s n w2 = some (if A k p = s ∧ A k (40 + p) = n then 1 else 0) := fun p hp s n => by
      rw [g4' p hp, x6_value P1.1 P1.2.1 (lat_ok (cP_le N1)), aw _ (by omega), aw _ (by omega), (rowA k k1 p hp).1, (rowA k k1 p hp).2.1]
    have hs : ∀ p, p < 40 → g_X6_sortOf F (o2 + 12) (w2.2.1 114 p) w2 = some (B k p) := fun p hp => by
      rw [g8 p hp, x6_sort P2.1 P2.2.1 (lat_ok (cP_le N2)), aw _ (by omega), (rowB k k2 p hp).1]
    have hn : ∀ p, p < 40 → g_X6_numberOf F (o2 + 12) (w2.2.1 114 p) w2 = some (B k (40 + p)) := fun p hp => by
      rw [g8 p hp, x6_number P2.1 P2.2.1 (lat_ok (cP_le N2)), aw _ (by omega), (rowB k k2 p hp).2.1]
    obtain ⟨xs, s1, s2⟩ := c_stack (F := F) (t := k) R1 R2 k1 k2 hF
    obtain ⟨x1, u1, u2⟩ := c_are (F := F) P1 (cP_le N1) (pc_le (pt := uc.2.1 (o1 + 12 + 1)) (N := N1) (k := k)) hv hs hn hF
    obtain ⟨x2, u3, u4⟩ := c_are (F := F) P2 (cP_le N2) (pc_le (pt := uc.2.1 (o2 + 12 + 1)) (N := N2) (k := k)) hv hs hn hF
    rw [aw _ (by omega)] at u2 u4
    have cA : g_X7_counterAt F o1 (nI k) w2 = some (A k 120) := by rw [x7_counter R1.1 hT1 k1, (R1.2.2.1 k k1).1]
    have cB : g_X7_counterAt F o2 (nI k) w2 = some (B k 120) := by rw [x7_counter R2.1 hT2 k2, (R2.2.2.1 k k2).1]
    have hbd : g_X0_firstUnlike_l37 F o1 o2 (nI M) (nI (pc (uc.2.1 (o1 + 12 + 1)) N1 k)) (nI (pc (uc.2.1 (o2 + 12 + 1)) N2 k)) (nI k) u = if A k 120 = B k 120 then (if xs = 0 then some (.inr (Sum.inl (nI k, w2))) else if x1 = 0 then (if x2 = 0 then some (.inl (nI (cP (uc.2.1 (o1 + 12 + 1)) k N1), nI (cP (uc.2.1 (o2 + 12 + 1)) k N2), nI (k + 1), w2)) else some (.inr (Sum.inl (nI k, w2)))) else some (.inr (Sum.inl (nI k, w2)))) else some (.inr (Sum.inl (nI k, w2))) := by
      unfold g_X0_firstUnlike_l37
      rw [if_neg (nI_nlt (by omega) (by omega)), g1, ob_i, g5, ob_i, cA, ob_i, cB, ob_i, s1, ob_i, u1, ob_i, u3, ob_i, nI_1]
    have stop : g_X0_firstUnlike_l37 F o1 o2 (nI M) (nI (pc (uc.2.1 (o1 + 12 + 1)) N1 k)) (nI (pc (uc.2.1 (o2 + 12 + 1)) N2 k)) (nI k) u = some (.inr (Sum.inl (nI k, w2))) → ¬ sLk (B k) (A k) → ∃ y x w, lp (fun (s : Int32 × Int32 × Int32 × rg_U) => g_X0_firstUnlike_l37 F o1 o2 (nI M) s.1 s.2.1 s.2.2.1 s.2.2.2) (G + 1) (nI (pc (uc.2.1 (o1 + 12 + 1)) N1 k), nI (pc (uc.2.1 (o2 + 12 + 1)) N2 k), nI k, u) = some y ∧ os y (fun r => some (r.1, r.2)) (fun r => some ((-1 : Int32), r)) = some (x, w) ∧ ((x = -1 ∧ ∀ j, j ≤ M → sLk (B j) (A j)) ∨ ∃ j, j ≤ M ∧ x = nI j ∧ ¬ sLk (B j) (A j) ∧ ∀ i, i < j → sLk (B i) (A i)) ∧ lyX uc w := fun e hns => ⟨_, nI k, w2, lp_r e, rfl, Or.inr ⟨k, by omega, rfl, hns, hl⟩, g6⟩
    by_cases z1 : A k 120 = B k 120
    · rw [if_pos z1] at hbd
      by_cases z2 : xs = 0
      · rw [if_pos z2] at hbd
        exact stop hbd (fun w => s2.mpr ⟨w.2.2.1, w.2.2.2⟩ z2)
      · rw [if_neg z2] at hbd
        have hst := s2.mp z2
        have all : sLk (B k) (A k) → ∀ p, p < 40 → eqV (A k) (B k) p := fun w p hp => ⟨w.1 p (by omega), w.1 (40 + p) (by omega)⟩
        by_cases z3 : x1 = 0
        · rw [if_pos z3] at hbd
          by_cases z4 : x2 = 0
          · rw [if_pos z4] at hbd
            have q1 := u2.mp z3
            have q2 := u4.mp z4
            have hev : ∀ p, p < 40 → eqV (A k) (B k) p := fun p hp => by
              by_cases y1 : ∃ i, pc (uc.2.1 (o1 + 12 + 1)) N1 k ≤ i ∧ i < cP (uc.2.1 (o1 + 12 + 1)) k N1 ∧ uc.2.1 (o1 + 12 + 2) i = nI p
              · obtain ⟨i, i1, i2, i3⟩ := y1
                exact q1 i i1 i2 p hp i3
              · by_cases y2 : ∃ i, pc (uc.2.1 (o2 + 12 + 1)) N2 k ≤ i ∧ i < cP (uc.2.1 (o2 + 12 + 1)) k N2 ∧ uc.2.1 (o2 + 12 + 2) i = nI p
                · obtain ⟨i, i1, i2, i3⟩ := y2
                  exact q2 i i1 i2 p hp i3
                · have L1 := lat_same pc_le y1
                  have L2 := lat_same pc_le y2
                  obtain ⟨a1, a2, -⟩ := rowA k k1 p hp
                  obtain ⟨b1, b2, -⟩ := rowB k k2 p hp
                  rw [L1] at a1 a2
                  rw [L2] at b1 b2
                  unfold eqV
                  rw [a1, a2, b1, b2]
                  by_cases y3 : k = 0
                  · unfold pc
                    rw [if_pos y3, if_pos y3]
                    exact ⟨rfl, rfl⟩
                  · unfold pc
                    rw [if_neg y3, if_neg y3]
                    obtain ⟨c1, c2, -⟩ := rowA (k - 1) (by omega) p hp
                    obtain ⟨d1, d2, -⟩ := rowB (k - 1) (by omega) p hp
                    rw [← c1, ← c2, ← d1, ← d2]
                    have hj := hl (k - 1) (by omega)
                    exact ⟨hj.1 p (by omega), hj.1 (40 + p) (by omega)⟩
            have hk : sLk (B k) (A k) := ⟨fun i hi => by
              rcases Nat.lt_or_ge i 40 with y | y
              · exact (hev i y).1
              · have := (hev (i - 40) (by omega)).2
                rwa [show 40 + (i - 40) = i by omega] at this, z1, hst.1, hst.2⟩
            rw [← pc_s (k := k) (N := N1), ← pc_s (k := k) (N := N2)] at hbd
            obtain ⟨y, x, w, r1, r2, r3, r4⟩ := c_ful h1 h2 ho1 ho2 hM1 hM2 hF f (k + 1) w2 (by omega) g6 (fun p hp => by rw [pc_s]; exact g4' p hp) (fun p hp => by rw [pc_s]; exact g8 p hp) (fun j hj => by
              by_cases y : j = k
              · rw [y]; exact hk
              · exact hl j (by omega)) G (by omega)
            exact ⟨y, x, w, (lp_l (body := fun (s : Int32 × Int32 × Int32 × rg_U) => g_X0_firstUnlike_l37 F o1 o2 (nI M) s.1 s.2.1 s.2.2.1 s.2.2.2) (s := (nI (pc (uc.2.1 (o1 + 12 + 1)) N1 k), nI (pc (uc.2.1 (o2 + 12 + 1)) N2 k), nI k, u)) hbd).trans r1, r2, r3, r4⟩
          · rw [if_neg z4] at hbd
            exact stop hbd (fun w => z4 (u4.mpr (fun i _ _ p hp _ => all w p hp)))
        · rw [if_neg z3] at hbd
          exact stop hbd (fun w => z3 (u2.mpr (fun i _ _ p hp _ => all w p hp)))
    · rw [if_neg z1] at hbd
      exact stop hbd (fun w => z1 w.2.1)
theorem sFill_n {a N j : Nat} {v : Int32} (h : j ≠ a) : (sFill u a N v).2.1 j = u.2.1 j := pm_up_n h
theorem sFill_y {a N i : Nat} {v : Int32} (h : i < N) : (sFill u a N v).2.1 a i = v := by
  show va_up u.2.1 a (fun i => if i < N then v else u.2.1 a i) a i = v
  unfold va_up
  rw [if_pos rfl]
  exact if_pos h
theorem c_firstUnlike (h1 : RunS uc o1 T1 N1 A l1) (h2 : RunS uc o2 T2 N2 B l2) (ho1 : 116 ≤ o1) (ho2 : 116 ≤ o2) (hF : 10000 < F) : ∃ x w, g_X0_firstUnlike F o1 o2 uc = some (x, w) ∧ ((x = -1 ∧ ∀ j, j ≤ min T1 T2 → sLk (B j) (A j)) ∨ ∃ j, j ≤ min T1 T2 ∧ x = nI j ∧ ¬ sLk (B j) (A j) ∧ ∀ i, i < j → sLk (B i) (A i)) ∧ lyX uc w := by
  have hT1 := h1.2.1
  have hT2 := h2.2.1
  have hu : lyX uc (sFill (sFill uc 113 40 (-1)) 114 40 (-1)) := ⟨rfl, fun j hj => by rw [sFill_n (by omega), sFill_n (by omega)], fun _ _ => rfl⟩
  obtain ⟨y, x, w, r1, r2, r3, r4⟩ := c_ful (F := F) (M := min T1 T2) h1 h2 ho1 ho2 (by omega) (by omega) hF (min T1 T2 + 1) 0 (sFill (sFill uc 113 40 (-1)) 114 40 (-1)) (by omega) hu (fun p hp => by rw [sFill_n (by omega), sFill_y hp]; rfl) (fun p hp => by rw [sFill_y hp]; rfl) (fun j hj => by omega) F (by omega)
  refine ⟨x, w, ?_, r3, r4⟩
  have e1 : rF (sFill (sFill uc 113 40 (-1)) 114 40 (-1)) o1 9 = nI T1 := h1.1
  have e2 : rF (sFill (sFill uc 113 40 (-1)) 114 40 (-1)) o2 9 = nI T2 := h2.1
  have im : imin (nI T1) (nI T2) = nI (min T1 T2) := by
    unfold imin
    by_cases q : T2 < T1
    · rw [if_pos (nI_lt q (by omega)), Nat.min_eq_right (by omega)]
    · rw [if_neg (nI_nlt (by omega) (by omega)), Nat.min_eq_left (by omega)]
  have r1' : lp (fun (s : Int32 × Int32 × Int32 × rg_U) => g_X0_firstUnlike_l37 F o1 o2 (nI (min T1 T2)) s.1 s.2.1 s.2.2.1 s.2.2.2) F ((0 : Int32), (0 : Int32), (0 : Int32), sFill (sFill uc 113 40 (-1)) 114 40 (-1)) = some y := r1
  unfold g_X0_firstUnlike
  rw [g_fill_eq (by decide) (by omega), ob_i, g_fill_eq (by decide) (by omega), ob_i, e1, e2, im, r1', ob_i]
  exact r2
theorem sr_parts (hF : 10000 < F) : SB pB (g_X9_parts F x y) (g_X10_parts F x y) := fun uc um h => by
  obtain ⟨K, W, r1, r2, -⟩ := id h
  have hK := r1.1.1.2.1
  unfold g_X9_parts
  have bad : ¬ ((∃ r, act um K r ∧ x = xr r) ∧ ∃ r, act um K r ∧ y = xr r) → ∃ zm, g_X10_parts F x y um = some zm ∧ (-2 : Int32) = zm.1 ∧ RelC pB uc zm.2 := fun hb => by
    rcases m_parts (F := F) (x := x) (y := y) r1 hF with ⟨-, q⟩ | ⟨a, b, c, w, a1, a2, a3, a4, -⟩
    · exact ⟨_, q, rfl, h⟩
    · exact absurd ⟨⟨a, a1, a2⟩, b, a3, a4⟩ hb
  rcases Rel_at (F := F) (x := x) h r1 with ⟨n1, e1⟩ | ⟨p, p1, p2, p3, e1, p4, p5⟩
  · obtain ⟨zm, b1, b2, b3⟩ := bad (fun w => n1 w.1)
    refine ⟨(-2, uc), zm, ?_, b1, b2, b3⟩
    rw [e1, ob_i, om_0]
    rcases Rel_at (F := F) (x := y) h r1 with ⟨n2, e2⟩ | ⟨q, q1, q2, q3, e2, q4, q5⟩
    · rw [e2, ob_i, om_0]
    · rw [e2, ob_i, om_i, ck_t (oR_rn q3)]
  · rcases Rel_at (F := F) (x := y) h r1 with ⟨n2, e2⟩ | ⟨q, q1, q2, q3, e2, q4, q5⟩
    · obtain ⟨zm, b1, b2, b3⟩ := bad (fun w => n2 w.2)
      refine ⟨(-2, uc), zm, ?_, b1, b2, b3⟩
      rw [e1, ob_i, om_i, ck_t (oR_rn p3), e2, ob_i, om_0]
    · rcases m_parts (F := F) (x := x) (y := y) r1 hF with ⟨w, -⟩ | ⟨a, b, c, w, a1, a2, a3, a4, g, pt, ce, ok⟩
      · exact absurd ⟨⟨p, p1, p2⟩, q, q1, q2⟩ w
      · have ea : a = p := xr_inj (act5 hK a1) p3 (a2.symm.trans p2)
        have eb : b = q := xr_inj (act5 hK a3) q3 (a4.symm.trans q2)
        subst ea eb
        obtain ⟨N1, h1⟩ := p4.2.2.2.2.2.2
        obtain ⟨N2, h2⟩ := q4.2.2.2.2.2.2
        have hT := Tr3 r1.1 p1
        obtain ⟨x', v, k1, k2, k3⟩ := c_firstUnlike (F := F) h1 h2 oR_ge oR_ge hF
        have ex : x' = c := by
          rcases k2 with ⟨z1, z2⟩ | ⟨j, z1, z2, z3, z4⟩
          · rcases pt with ⟨y1, y2⟩ | ⟨i, y1, y2, y3, y4⟩
            · rw [z1, y1]
            · exact absurd (z2 i y1) y3
          · rcases pt with ⟨y1, y2⟩ | ⟨i, y1, y2, y3, y4⟩
            · exact absurd (y2 j z1) z3
            · have : j = i := by
                rcases Nat.lt_trichotomy j i with l | l | l
                · exact absurd (y4 j l) z3
                · exact l
                · exact absurd (z4 i l) y3
              rw [z2, y2, this]
        refine ⟨(x', v), _, ?_, g, ex, Rel_e (Rel_ly h k3) r1 ce ok⟩
        rw [e1, ob_i, om_i, ck_t (oR_rn p3), e2, ob_i, om_i, ck_t (oR_rn q3), k1, ob_i]
end YN
end W_88
section W_89
-- 97zzx.look
/-! the class and the reference: look, and that calls that answer no count leave the counts -/
/-- nothing but the marks is other -/
def mkX (u0 u : rg_U) : Prop := wyX u0 u ∧ u.1 = u0.1 ∧ ∀ j, j ≠ 115 → u.2.1 j = u0.2.1 j
section YO
variable {pB : Prop} {F o o' j s K W : Nat} {x y z v i a b c d e : Int32} {u0 u w uc um uc' : rg_U}
theorem mk_r (h : wkB u) : mkX u u := ⟨wy_r h, rfl, fun _ _ => rfl⟩
theorem mk_Z (h : mkX u0 u) : mkX u0 (sZ u 115 i v) := ⟨wy_Z h.1 (by decide), h.2.1, fun j hj => (R_n hj).trans (h.2.2 j hj)⟩
theorem x_unmark (h : mkX u0 u) (hF : 10000 < F) : Tt (g_X6_unmarkAll F o 115 3800 u) (fun w => mkX u0 w) := by
  have eN : (Int32.ofNat 3800).toInt = 3800 := rfl
  unfold g_X6_unmarkAll
  refine tt_b (tt_lp (I := fun s => mkX u0 s.2 ∧ 0 ≤ s.1.toInt ∧ s.1.toInt ≤ 3800) (m := fun s => (3800 - s.1.toInt).toNat) (P := fun w => mkX u0 w) ?_ F _ ?_ ?_) (fun _ q => q)
  · rintro ⟨c, w⟩ ⟨h0, h1, h2⟩
    dsimp only at h0 h1 h2 ⊢
    unfold g_X6_unmarkAll_l2
    refine tt_if (fun _ => tt_r h0) (fun _ => tt_if (fun _ => tt_r h0) (fun h3 => ?_))
    rw [Int32.le_iff_toInt_le, eN] at h3
    have hi : inb c 3800 := by constructor <;> omega
    have := t_a1 (x := c) (by omega)
    exact tt_ck hi (tt_lt (tt_l ⟨⟨mk_Z h0, by dsimp only; omega⟩, by dsimp only; omega⟩))
  · dsimp only
    rw [t_0]
    omega
  · dsimp only
    rw [t_0]
    exact ⟨h, by omega⟩
theorem x_mark (h : mkX u0 u) : Tt (g_X6_mark F o 115 3800 x u) (fun w => mkX u0 w) := by
  unfold g_X6_mark
  exact tt_ob z_has6 (fun r hr => tt_if (fun _ => tt_s h) (fun q => tt_if (fun _ => tt_s h) (fun _ => tt_ck (hr q) (tt_lt (tt_s (mk_Z h))))))
theorem x_markBelow (h : mkX u0 u) (ho : isRn o) (hF : 10000 < F) : Tt (g_X6_markAllBelow F (o + 12) x 115 3800 u) (fun w => mkX u0 w) := by
  unfold g_X6_markAllBelow
  refine tt_ob (x_unmark h hF) (fun _ h1 => tt_ob (x_mark h1) (fun w2 h2 => tt_b (tt_lp (I := fun s => mkX u0 s.2 ∧ s.1.toInt ≤ 3799) (m := fun s => (s.1.toInt + 1).toNat) (P := fun w => mkX u0 w) ?_ F _ ?_ ?_) (fun _ q => q)))
  · rintro ⟨c, w⟩ ⟨h0, h3⟩
    dsimp only at h0 h3 ⊢
    unfold g_X6_markAllBelow_l22
    refine tt_if (fun _ => tt_r h0) (fun h4 => ?_)
    rw [Int32.lt_iff_toInt_lt, t_0] at h4
    have hi : inb c 3800 := by constructor <;> omega
    have := t_d1 (x := c) (by omega)
    have fin : ∀ w', mkX u0 w' → Tt (g_X6_markAllBelow_j56 F (o + 12) 115 3800 c w') (PS (fun s' : Int32 × rg_U => (mkX u0 s'.2 ∧ s'.1.toInt ≤ 3799) ∧ (s'.1.toInt + 1).toNat < (c.toInt + 1).toNat) (fun w : rg_U => mkX u0 w)) := fun w' hw' => tt_l ⟨⟨hw', by dsimp only; omega⟩, by dsimp only; omega⟩
    exact tt_ob (z_isMarked (by decide)) (fun _ _ => tt_if (fun _ => fin _ h0) (fun _ => tt_ck hi (tt_ob (x_mark h0) (fun _ h5 => tt_ck hi (tt_ob (x_mark h5) (fun _ h6 => fin _ h6))))))
  all_goals
    have hb := b_P (wy_k h2.1) ho
    have hs := t_s1 (x := rF w2 (o + 12) 11) (by omega)
    have hm : (imin x (rF w2 (o + 12) 11 - 1)).toInt ≤ 3799 := by
      unfold imin
      by_cases q : rF w2 (o + 12) 11 - 1 < x
      · rw [if_pos q]; omega
      · rw [if_neg q]
        rw [Int32.lt_iff_toInt_lt] at q
        omega
    dsimp only
  · omega
  · exact ⟨h2, hm⟩
theorem x_markAbove (h : mkX u0 u) (hF : 10000 < F) : Tt (g_X6_markAllAbove F o x 115 3800 u) (fun w => mkX u0 w) := by
  unfold g_X6_markAllAbove
  refine tt_ob (x_unmark h hF) (fun w1 h1 => tt_b (tt_lp (I := fun s => mkX u0 s.2 ∧ 0 ≤ s.1.toInt ∧ s.1.toInt ≤ 3800) (m := fun s => (3800 - s.1.toInt).toNat) (P := fun w => mkX u0 w) ?_ F _ ?_ ?_) (fun _ q => q))
  · rintro ⟨c, w⟩ ⟨h0, h3, h4⟩
    dsimp only at h0 h3 h4 ⊢
    unfold g_X6_markAllAbove_l7
    refine tt_if (fun _ => tt_r h0) (fun _ => tt_if (fun _ => tt_r h0) (fun h5 => ?_))
    rw [Int32.le_iff_toInt_le, t_3800] at h5
    have hi : inb c 3800 := by constructor <;> omega
    have := t_a1 (x := c) (by omega)
    have j64 : ∀ w', mkX u0 w' → Tt (g_X6_markAllAbove_j64 F o 115 3800 x c w') (PS (fun s' : Int32 × rg_U => (mkX u0 s'.2 ∧ 0 ≤ s'.1.toInt ∧ s'.1.toInt ≤ 3800) ∧ (3800 - s'.1.toInt).toNat < (3800 - c.toInt).toNat) (fun w : rg_U => mkX u0 w)) := fun w' hw' => tt_l ⟨⟨hw', by dsimp only; omega⟩, by dsimp only; omega⟩
    have j58 : Tt (g_X6_markAllAbove_j58 F o 115 3800 x c w) (PS (fun s' : Int32 × rg_U => (mkX u0 s'.2 ∧ 0 ≤ s'.1.toInt ∧ s'.1.toInt ≤ 3800) ∧ (3800 - s'.1.toInt).toNat < (3800 - c.toInt).toNat) (fun w : rg_U => mkX u0 w)) := by
      unfold g_X6_markAllAbove_j58
      exact tt_ob (x_mark h0) (fun _ h6 => j64 _ h6)
    exact tt_ck hi (tt_if (fun _ => j58) (fun _ => tt_ck hi (tt_ob (z_isMarked (by decide)) (fun _ _ => tt_if (fun _ => tt_ck hi (tt_ob (z_isMarked (by decide)) (fun _ _ => tt_if (fun _ => j64 _ h0) (fun _ => j58)))) (fun _ => j58)))))
  · dsimp only
    rw [t_0]
    omega
  · dsimp only
    rw [t_0]
    exact ⟨h1, by omega⟩
theorem mk_rests (h : mkX u0 u) (hG : wkG u0) (hF : 10000 < F) : Tt (g_X9_rests F x y z u) (fun z => mkX u0 z.2) := by
  unfold g_X9_rests
  exact tt_num (wx_G hG (wy_k h.1)) (tt_s h) (fun o ho => tt_ob z_hasT (fun r hr => tt_if (fun _ => tt_s h) (fun q => tt_if (fun _ => tt_s h) (fun _ => tt_ob (z_putBy (b_P (wy_k h.1) ho) hF) (fun _ _ => tt_ob (x_markBelow h ho hF) (fun _ h1 => tt_b (z_markedStep (by decide) hF) (fun _ _ => h1)))))))
theorem mk_hangs (h : mkX u0 u) (hG : wkG u0) (hF : 10000 < F) : Tt (g_X9_hangs F x y z u) (fun z => mkX u0 z.2) := by
  unfold g_X9_hangs
  have hp := t_pl (y := z)
  refine tt_num (wx_G hG (wy_k h.1)) (tt_s h) (fun o ho => tt_ob z_has3 (fun r hr => tt_if (fun _ => tt_s h) (fun q => tt_ob z_hasT (fun r hr => tt_if (fun _ => tt_s h) (fun q => tt_if (fun _ => tt_s h) (fun _ => tt_ob (x_markAbove h hF) (fun w1 h1 => tt_b (tt_lp (I := fun s => 0 ≤ s.2.toInt ∧ s.2.toInt ≤ 32) (m := fun s => (32 - s.2.toInt).toNat) (P := fun _ => True) ?_ F _ ?_ ?_) (fun _ _ => h1))))))))
  · rintro ⟨a, c⟩ ⟨h4, h5⟩
    dsimp only at h4 h5 ⊢
    unfold g_X9_hangs_l65 g_X9_hangs_j109
    refine tt_if (fun _ => tt_r trivial) (fun h6 => ?_)
    rw [Int32.le_iff_toInt_le] at h6
    have := t_a1 (x := c) (by omega)
    exact tt_ob (z_putBy (b_P (wy_k h1.1) ho) hF) (fun _ _ => tt_ob (z_isMarked (by decide)) (fun _ _ => tt_if (fun _ => tt_l (by dsimp only; omega)) (fun _ => tt_l (by dsimp only; omega))))
  · dsimp only
    rw [t_0]
    omega
  · dsimp only
    rw [t_0]
    omega
theorem Rel_mk (h : RelC pB uc um) (hl : mkX uc uc') : RelC pB uc' um := by
  obtain ⟨K, W, r1, r2, r3, r4, ⟨s1, s2, s3, s4, s5⟩, r6, r7, r8, r9⟩ := h
  have hK := r1.1.1.2.1
  have cf : ∀ k, uc'.1 k = uc.1 k := fun k => by rw [hl.2.1]
  have ca : ∀ j, j ≠ 115 → uc'.2.1 j = uc.2.1 j := hl.2.2
  refine ⟨K, W, r1, ⟨hl.1.1, wx_G r2.2 (wy_k hl.1)⟩, OutR_c r3 (cf _) (cf _) (cf _) (ca 7 (by omega)) rfl rfl, WR_c r4 (cf _) (cf _) rfl, ⟨(cf _).trans s1, (cf _).trans s2, (cf _).trans s3, (cf _).trans s4, fun hb => (cf _).trans (s5 hb)⟩, ?_, fun z k hz hk => ?_, fun h1 => ?_, fun q hq => ⟨?_, ?_⟩⟩
  · rw [show rG uc' 0 7 = rG uc 0 7 by unfold rG; rw [hl.1.2.1]]
    exact r6
  · rw [ca _ (by omega)]
    exact r7 z k hz hk
  · exact RR_f (r8 h1) (fun j j1 _ => ca j (by omega)) (fun k k1 k2 => cf k)
  · exact RR_f (r9 q hq).1 (fun j j1 _ => ca j (by omega)) (fun k k1 k2 => cf k)
  · exact (cf _).trans (r9 q hq).2
/-- both return, and what holds of both holds behind it; nothing of the answers -/
def SV (pB : Prop) (gc gm : rg_U → Option (Int32 × rg_U)) : Prop := ∀ uc um, RelC pB uc um → ∃ zc zm, gc uc = some zc ∧ gm um = some zm ∧ RelC pB zc.2 zm.2
theorem sv_rests (hF : 10000 < F) : SV pB (g_X9_rests F x y z) (g_X10_rests F x y z) := fun uc um h => by
  obtain ⟨K, W, r1, r2, -⟩ := id h
  obtain ⟨zc, e1, h1⟩ := mk_rests (F := F) (x := x) (y := y) (z := z) (mk_r r2.1) r2.2 hF
  rcases m_rests (F := F) (x := x) (y := y) (z := z) r1 hF with ⟨-, q⟩ | ⟨t, p, u', -, -, -, -, -, -, q, w, ce⟩
  · exact ⟨zc, _, e1, q, Rel_mk h h1⟩
  · exact ⟨zc, _, e1, q, Rel_e (Rel_mk h h1) r1 ce w⟩
theorem sv_hangs (hF : 10000 < F) : SV pB (g_X9_hangs F x y z) (g_X10_hangs F x y z) := fun uc um h => by
  obtain ⟨K, W, r1, r2, -⟩ := id h
  obtain ⟨zc, e1, h1⟩ := mk_hangs (F := F) (x := x) (y := y) (z := z) (mk_r r2.1) r2.2 hF
  rcases m_hangs (F := F) (x := x) (y := y) (z := z) r1 hF with ⟨q, -⟩ | ⟨t, e, u', -, -, -, -, -, -, -, q, w, ce⟩
  · exact ⟨zc, _, e1, q, Rel_mk h h1⟩
  · exact ⟨zc, _, e1, q, Rel_e (Rel_mk h h1) r1 ce w⟩
theorem sv_history (hF : 10000 < F) : SV pB (lf1 (g_X9_history F x y z)) (g_X10_history F x y z) := fun uc um h => by
  obtain ⟨K, W, r1, r2, -⟩ := id h
  obtain ⟨r, e1, -⟩ := wk_history (F := F) (x := x) (y := y) (z := z) (wx_r r2.1) r2.2 hF
  have e1' : lf1 (g_X9_history F x y z) uc = some (r, uc) := by unfold lf1; rw [e1, ob_i]
  rcases m_history (F := F) (x := x) (y := y) (z := z) r1 hF with ⟨-, q⟩ | ⟨p, u', -, -, -, -, -, q, w, ce⟩
  · exact ⟨_, _, e1', q, h⟩
  · exact ⟨_, _, e1', q, Rel_e h r1 ce w⟩
theorem sv_lf {gc gm : rg_U → Option Int32} (hc : ∀ u, wkB u → wkG u → Tt (gc u) (fun _ => True)) (hm : ∀ u K W, okM u K W → ∃ r, gm u = some r) : SV pB (lf1 gc) (lf1 gm) := fun uc um h => by
  obtain ⟨K, W, r1, r2, -⟩ := id h
  obtain ⟨r, e1, -⟩ := hc uc r2.1 r2.2
  obtain ⟨r', e2⟩ := hm um K W r1
  exact ⟨(r, uc), (r', um), by unfold lf1; rw [e1, ob_i], by unfold lf1; rw [e2, ob_i], h⟩
theorem in6_iff : (¬ x < 0 ∧ ¬ 6 < x) ↔ ¬ g_X10_isIn x 0 6 = 0 := by
  rw [in_0, Decidable.not_not, Int32.lt_iff_toInt_lt, Int32.lt_iff_toInt_lt, Int32.le_iff_toInt_le, Int32.le_iff_toInt_le, t_0]
  constructor
  · rintro ⟨a, b⟩; exact ⟨by omega, by omega⟩
  · rintro ⟨a, b⟩; exact ⟨by omega, by omega⟩
theorem sr_look (hF : 10000 < F) : SB True (lf1 (g_X9_look F x)) (lf1 (g_X10_look F x)) := fun uc um h => by
  obtain ⟨K, W, r1, r2, r3, r4, ⟨s1, s2, s3, s4, s5⟩, r6, r7, r8, r9⟩ := id h
  have hK := r1.1.1.2.1
  have key : g_X9_look F x uc = some (loA um W x) := by
    obtain ⟨A0, ⟨q1, q2, q3, q4⟩, q5, q6⟩ := id r3
    unfold g_X9_look loA
    by_cases q : g_X10_isIn x 0 6 = 0
    · have e : g_X9_look_j24 F x uc = some (if x = 7 then um.1 29 else if x = 8 then um.1 33 else if x = 9 then um.1 34 else if x = 10 then um.1 35 else if x = 11 then wtB um 0 8 else if x = 12 then wtB um 8 32 else -1000001) := by
        unfold g_X9_look_j24
        rw [s1, q2, q6, s5 trivial, r4.1, r4.2, r1.1.1.1, r1.1.2.2.2.2.2.2.1.1]
        by_cases x7 : x = 7
        · rw [if_pos x7, if_pos x7]
        rw [if_neg x7, if_neg x7]
        by_cases x8 : x = 8
        · rw [if_pos x8, if_pos x8]
        rw [if_neg x8, if_neg x8]
        by_cases x9 : x = 9
        · rw [if_pos x9, if_pos x9]
        rw [if_neg x9, if_neg x9]
        by_cases x10 : x = 10
        · rw [if_pos x10, if_pos x10]
        rw [if_neg x10, if_neg x10]
        by_cases x11 : x = 11
        · rw [if_pos x11, if_pos x11]
        rw [if_neg x11, if_neg x11]
        by_cases x12 : x = 12
        · rw [if_pos x12, if_pos x12]
        rw [if_neg x12, if_neg x12]
      rw [if_pos q]
      by_cases z1 : x < 0
      · rw [if_pos z1]; exact e
      · rw [if_neg z1]
        by_cases z2 : 6 < x
        · rw [if_pos z2]; exact e
        · exact absurd q (in6_iff.mp ⟨z1, z2⟩)
    · obtain ⟨z1, z2⟩ := in6_iff.mpr q
      rw [if_neg z1, if_neg z2, if_neg q]
      rcases Rel_ask (F := F) h r1 with ⟨e5, en⟩ | ⟨ea, e5, h5, en, hR⟩
      · rw [en, ob_i, om_0, if_pos e5]
        rfl
      · have hro := r1.1.2.2.2.2.1 _ ea
        obtain ⟨N, hS⟩ := hR.2.2.2.2.2.2
        obtain ⟨b1, b2, b3, b4⟩ := hR.2.2.2.2.2.1
        obtain ⟨c1, c2, -⟩ := hR.2.2.2.1
        have h9 : rF uc (oR (aR um)) 9 = um.2.1 21 (aR um) := hS.1.trans hro.2.1.symm
        have hU : rF uc (oR (aR um) + 28) 3 = um.2.1 23 (aR um) := c1.trans hro.2.2.1.symm
        have hD : rF uc (oR (aR um) + 28) 4 = um.2.1 24 (aR um) := c2.trans hro.2.2.2.1.symm
        have hst : ob (g_X9_isKept F (rF uc 0 8) uc) (fun r3 => if r3 = 0 then (ob (g_X7_statusWith F (oR (aR um)) uc) (fun r6 => some r6)) else (some (rF uc (oR (aR um)) 14))) = some (if aR um = 4 then stM um W else um.2.1 22 (aR um)) := by
          rcases r1.1.1.2.2 with k | ⟨r, hr, k⟩
          · have eA : aR um = 4 := by unfold aR; rw [if_pos k]
            have hk : g_X9_isKept F (rF uc 0 8) uc = some 0 := by
              unfold g_X9_isKept
              rw [s2, k, if_pos (by decide)]
            rw [eA] at hR e5 ⊢
            rw [hk, ob_i, if_pos rfl, c_status r1 e5 hR r3, ob_i, if_pos rfl]
          · have eA : aR um = r := by unfold aR; rw [if_neg (by rw [k]; exact nI_m1 (by omega)), k, tnn (by omega)]
            have hk : g_X9_isKept F (rF uc 0 8) uc = some 1 := by
              unfold g_X9_isKept
              rw [s2, k, if_neg (nI_pos (by omega)), s1, if_neg (nI_ge hr (by omega)), if_neg (show ¬ (4 : Int32) ≤ nI r from nI_ge (a := r) (b := 4) (by omega) (by decide))]
            rw [hk, ob_i, if_neg one_n0, eA, if_neg (by omega), oR_r (by omega), (r9 r hr).2]
        rw [en, ob_i, om_i, ck_t (oR_rn h5), if_neg (by rw [e5]; exact one_n0)]
        unfold g_X9_lookAtRun ofA
        rw [hst, h9, hU, hD, b1, b3 trivial, b4]
        by_cases x0 : x = 0
        · rw [if_pos x0, if_pos x0, ob_i]
        rw [if_neg x0, if_neg x0]
        by_cases x1 : x = 1
        · rw [if_pos x1, if_pos x1, ob_i]
        rw [if_neg x1, if_neg x1]
        by_cases x2 : x = 2
        · rw [if_pos x2, if_pos x2, ob_i]
        rw [if_neg x2, if_neg x2]
        by_cases x3 : x = 3
        · rw [if_pos x3, if_pos x3, ob_i]
        rw [if_neg x3, if_neg x3]
        by_cases x4 : x = 4
        · rw [if_pos x4, if_pos x4, ob_i]
        rw [if_neg x4, if_neg x4]
        by_cases x5 : x = 5
        · rw [if_pos x5, if_pos x5, ob_i]
        rw [if_neg x5, if_neg x5, ob_i]
  exact ⟨(loA um W x, uc), (loA um W x, um), by unfold lf1; rw [key, ob_i], by unfold lf1; rw [m_look r1.1 hF, ob_i], rfl, h⟩
end YO
end W_89
