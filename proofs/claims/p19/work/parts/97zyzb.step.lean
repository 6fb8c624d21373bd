/-! what a put rests on: a step on both sides -/
theorem kc1 : ∀ k, k < 23 → ((nI k = 3 ∨ nI k = 11 ∨ nI k = 14 ∨ nI k = 13 ∨ ¬ g_X10_isIn (nI k) 4 10 = 0 ∨ nI k = 12) ↔ (k = 3 ∨ k = 11 ∨ k = 14 ∨ k = 13 ∨ (4 ≤ k ∧ k ≤ 10) ∨ k = 12)) := by decide +kernel
theorem kc2 : ∀ k, k < 23 → ((¬ g_X10_isIn (nI k) 4 10 = 0 ∨ nI k = 12) ↔ ((4 ≤ k ∧ k ≤ 10) ∨ k = 12)) := by decide +kernel
theorem kc3 : ∀ k, k < 23 → (nI k = 14 ↔ k = 14) := by decide +kernel
theorem kc4 : ∀ k, k < 23 → (nI k = 13 ↔ k = 13) := by decide +kernel
theorem kc5 : ∀ k, k < 23 → ((nI k = 19 ∨ nI k = 20) ↔ (k = 19 ∨ k = 20)) := by decide +kernel
theorem lk7 {c1 c2 c3 c4 c5 A B C D E X : Prop} : ((((((False ∨ (c1 ∧ A)) ∨ (c2 ∧ B)) ∨ (c3 ∧ C)) ∨ (c4 ∧ D)) ∨ (c5 ∧ E)) ∨ X) ↔ (X ∨ (c5 ∧ E) ∨ ((c1 ∧ A) ∨ (c2 ∧ B) ∨ (c3 ∧ C) ∨ (c4 ∧ D))) := by
  constructor
  · rintro ((((((w | w) | w) | w) | w) | w) | w)
    · exact w.elim
    · exact Or.inr (Or.inr (Or.inl w))
    · exact Or.inr (Or.inr (Or.inr (Or.inl w)))
    · exact Or.inr (Or.inr (Or.inr (Or.inr (Or.inl w))))
    · exact Or.inr (Or.inr (Or.inr (Or.inr (Or.inr w))))
    · exact Or.inr (Or.inl w)
    · exact Or.inl w
  · rintro (w | w | w | w | w | w)
    · exact Or.inr w
    · exact Or.inl (Or.inr w)
    · exact Or.inl (Or.inl (Or.inl (Or.inl (Or.inl (Or.inr w)))))
    · exact Or.inl (Or.inl (Or.inl (Or.inl (Or.inr w))))
    · exact Or.inl (Or.inl (Or.inl (Or.inr w)))
    · exact Or.inl (Or.inl (Or.inr w))
theorem lkE_no {c : Prop} {l x : Nat} (hc : ¬ c) : (c ∧ x = 3008 + l) ↔ ∃ j, j < 800 ∧ (-1 : Int32) = nI j ∧ x = 3008 + j := ⟨fun w => absurd w.1 hc, fun ⟨j, hj, e, _⟩ => absurd e.symm (nI_m1 (by omega))⟩
theorem lkE_y {c : Prop} {l x : Nat} (hc : c) (hl : l < 800) : (c ∧ x = 3008 + l) ↔ ∃ j, j < 800 ∧ nI l = nI j ∧ x = 3008 + j := ⟨fun w => ⟨l, hl, rfl, w.2⟩, fun ⟨j, hj, e, w⟩ => ⟨hc, by rw [nI_inj (by omega) (by omega) e]; exact w⟩⟩
theorem lkS_V {P : Prg} {m : Row} {l T N x k cn : Nat} {y num en : Int32} {S : SetB} {I : Int32 → Prop} {pp : Nat → Int32} (hk : k < 23) (ek : kindOf P (m 120) = nI k) (hc : m 120 = nI cn) (hcn : cn < 64) (hv : ¬ g_X10_isFine (nI k) (P.2.1 cn) (P.2.2.1 cn) (P.2.2.2 cn) = 0) (hT : m 133 = nI T) (hT3 : T < 3000) (hl : k = 19 ∨ k = 20 → l < 800) (hput : ¬ (mdo (upd m 120 y) k (P.2.1 cn) (P.2.2.1 cn) (P.2.2.2 cn) num en).2.2.2 = -1) (hI : ∀ p, p < 40 → (S p x ↔ I (lat pp p N))) (hI0 : ¬ I (-1)) : lkS P m l S x ↔ (x = T ∨ (∃ j, j < 800 ∧ (lkV k (P.2.1 cn) (P.2.2.1 cn) (P.2.2.2 cn) l (upd m 120 y) pp N).1 = nI j ∧ x = 3008 + j) ∨ (I (lkV k (P.2.1 cn) (P.2.2.1 cn) (P.2.2.2 cn) l (upd m 120 y) pp N).2.1 ∨ I (lkV k (P.2.1 cn) (P.2.2.1 cn) (P.2.2.2 cn) l (upd m 120 y) pp N).2.2)) := by
  unfold lkS
  rw [ek, hc, hT, tnn (show cn < 2 ^ 31 by omega), tnn (show T < 2 ^ 31 by omega), kc1 k hk, kc2 k hk, kc3 k hk, kc4 k hk, kc5 k hk, lk7, and_iff_right (nI_m1 (show k < 2 ^ 31 by omega))]
  generalize P.2.1 cn = a at *
  generalize P.2.2.1 cn = b at *
  generalize P.2.2.2 cn = c at *
  refine or_congr Iff.rfl ?_
  rcases (show (k = 0 ∨ k = 1 ∨ k = 2 ∨ k = 15 ∨ k = 16 ∨ k = 17 ∨ k = 18 ∨ k = 21 ∨ k = 22) ∨ (k = 3 ∨ k = 11) ∨ (k = 4 ∨ k = 5 ∨ k = 6 ∨ k = 7 ∨ k = 8 ∨ k = 9 ∨ k = 10 ∨ k = 12) ∨ k = 13 ∨ k = 14 ∨ (k = 19 ∨ k = 20) by omega) with hg | hg | hg | hg | hg | hg
  · have eV : lkV k a b c l (upd m 120 y) pp N = (-1, -1, -1) := by
      rcases hg with rfl | rfl | rfl | rfl | rfl | rfl | rfl | rfl | rfl <;> rfl
    rw [eV]
    refine or_congr (lkE_no (by omega)) ⟨?_, ?_⟩
    · rintro (w | w | w | w)
      · exact absurd w.1 (by omega)
      · exact absurd w.1 (by omega)
      · exact absurd w.1 (by omega)
      · exact absurd w.1.1 (by omega)
    · rintro (w | w)
      · exact absurd w hI0
      · exact absurd w hI0
  · have eV : lkV k a b c l (upd m 120 y) pp N = (-1, lat pp (tn b) N, -1) := by
      rcases hg with rfl | rfl <;> rfl
    obtain ⟨-, p, hp, ep⟩ := fine_b hv (by rcases hg with rfl | rfl <;> decide)
    have hb : tn b < 40 := by rw [ep, tnn (by omega)]; omega
    rw [eV]
    refine or_congr (lkE_no (by omega)) ⟨?_, ?_⟩
    · rintro (w | w | w | w)
      · exact Or.inl ((hI _ hb).mp w.2)
      · exact absurd w.1 (by omega)
      · exact absurd w.1 (by omega)
      · exact absurd w.1.1 (by omega)
    · rintro (w | w)
      · exact Or.inl ⟨by omega, (hI _ hb).mpr w⟩
      · exact absurd w hI0
  · have eV : lkV k a b c l (upd m 120 y) pp N = (-1, lat pp (tn b) N, lat pp (tn c) N) := by
      rcases hg with rfl | rfl | rfl | rfl | rfl | rfl | rfl | rfl <;> rfl
    obtain ⟨-, ⟨p, hp, ep⟩, p2, hp2, ep2⟩ := fine_c hv (by rcases hg with rfl | rfl | rfl | rfl | rfl | rfl | rfl | rfl <;> decide)
    have hb : tn b < 40 := by rw [ep, tnn (by omega)]; omega
    have hc' : tn c < 40 := by rw [ep2, tnn (by omega)]; omega
    rw [eV]
    refine or_congr (lkE_no (by omega)) ⟨?_, ?_⟩
    · rintro (w | w | w | w)
      · exact Or.inl ((hI _ hb).mp w.2)
      · exact Or.inr ((hI _ hc').mp w.2)
      · exact absurd w.1 (by omega)
      · exact absurd w.1.1 (by omega)
    · rintro (w | w)
      · exact Or.inl ⟨by omega, (hI _ hb).mpr w⟩
      · exact Or.inr (Or.inl ⟨by omega, (hI _ hc').mpr w⟩)
  · subst hg
    obtain ⟨-, p, hp, ep⟩ := fine_b hv (by decide)
    have hb : tn b < 8 := by rw [ep, tnn (by omega)]; exact hp
    have em : (upd m 120 y) (40 + tn b) = m (40 + tn b) := pk_un (by omega)
    have hin : 0 ≤ m (40 + tn b) ∧ m (40 + tn b) ≤ 31 := by
      have h13 : mdo (upd m 120 y) 13 a b c num en = mcel (upd m 120 y) (tn b) (fun p => mgiv (upd m 120 y) (tn a) ((upd m 120 y) p) ((upd m 120 y) (40 + p))) := rfl
      rw [h13] at hput
      unfold mcel at hput
      rw [em] at hput
      by_cases z1 : (upd m 120 y) (tn b) = 2
      · rw [if_pos z1] at hput
        by_cases z2 : 0 ≤ m (40 + tn b) ∧ m (40 + tn b) ≤ 31
        · exact z2
        · rw [if_neg z2] at hput
          exact (hput rfl).elim
      · rw [if_neg z1] at hput
        exact (hput rfl).elim
    have hin2 : ¬ g_X10_isIn (m (40 + tn b)) 0 31 = 0 := fun z => (in_0.mp z) hin
    obtain ⟨q, hq, q1, q2⟩ := in_nat hin2 (by decide)
    have e31 : (31 : Int32).toInt = 31 := rfl
    have hcell : 8 + tn (m (40 + tn b)) < 40 := by rw [hq, tnn (by omega)]; omega
    have eV : lkV 13 a b c l (upd m 120 y) pp N = (-1, lat pp (tn b) N, lat pp (8 + tn (m (40 + tn b))) N) := by
      show ((-1 : Int32), lat pp (tn b) N, lat pp (8 + tn ((upd m 120 y) (40 + tn b))) N) = _
      rw [em]
    rw [eV]
    refine or_congr (lkE_no (by omega)) ⟨?_, ?_⟩
    · rintro (w | w | w | w)
      · exact Or.inl ((hI _ (by omega)).mp w.2)
      · exact absurd w.1 (by omega)
      · exact absurd w.1 (by omega)
      · exact Or.inr ((hI _ hcell).mp w.2)
    · rintro (w | w)
      · exact Or.inl ⟨by omega, (hI _ (by omega)).mpr w⟩
      · exact Or.inr (Or.inr (Or.inr ⟨⟨rfl, hin2⟩, (hI _ hcell).mpr w⟩))
  · subst hg
    obtain ⟨⟨p2, hp2, ep2⟩, p, hp, ep⟩ := fine_b hv (by decide)
    have hb : tn b < 40 := by rw [ep, tnn (by omega)]; omega
    have ha : tn a < 40 := by rw [ep2, tnn (by omega)]; omega
    have eV : lkV 14 a b c l (upd m 120 y) pp N = (-1, lat pp (tn a) N, lat pp (tn b) N) := rfl
    rw [eV]
    refine or_congr (lkE_no (by omega)) ⟨?_, ?_⟩
    · rintro (w | w | w | w)
      · exact Or.inr ((hI _ hb).mp w.2)
      · exact absurd w.1 (by omega)
      · exact Or.inl ((hI _ ha).mp w.2)
      · exact absurd w.1.1 (by omega)
    · rintro (w | w)
      · exact Or.inr (Or.inr (Or.inl ⟨rfl, (hI _ ha).mpr w⟩))
      · exact Or.inl ⟨by omega, (hI _ hb).mpr w⟩
  · have eV : lkV k a b c l (upd m 120 y) pp N = (nI l, -1, -1) := by
      rcases hg with rfl | rfl <;> rfl
    rw [eV]
    refine or_congr (lkE_y hg (hl hg)) ⟨?_, ?_⟩
    · rintro (w | w | w | w)
      · exact absurd w.1 (by omega)
      · exact absurd w.1 (by omega)
      · exact absurd w.1 (by omega)
      · exact absurd w.1.1 (by omega)
    · rintro (w | w)
      · exact absurd w hI0
      · exact absurd w hI0
theorem lkV_pt {k L N : Nat} {a b c : Int32} {m : Row} {pp : Nat → Int32} (hk : k < 23) : isPt N (lkV k a b c L m pp N).2.1 ∧ isPt N (lkV k a b c L m pp N).2.2 := by
  rcases (show (k = 0 ∨ k = 1 ∨ k = 2 ∨ k = 15 ∨ k = 16 ∨ k = 17 ∨ k = 18 ∨ k = 21 ∨ k = 22 ∨ k = 19 ∨ k = 20) ∨ (k = 3 ∨ k = 11) ∨ (k = 4 ∨ k = 5 ∨ k = 6 ∨ k = 7 ∨ k = 8 ∨ k = 9 ∨ k = 10 ∨ k = 12 ∨ k = 13 ∨ k = 14) by omega) with hg | hg | hg
  · rcases hg with rfl | rfl | rfl | rfl | rfl | rfl | rfl | rfl | rfl | rfl | rfl <;> exact ⟨Or.inl rfl, Or.inl rfl⟩
  · rcases hg with rfl | rfl <;> exact ⟨lat_pt N, Or.inl rfl⟩
  · rcases hg with rfl | rfl | rfl | rfl | rfl | rfl | rfl | rfl | rfl | rfl <;> exact ⟨lat_pt N, lat_pt N⟩
theorem rS_go {P : Prg} {L L' : Lg} {n T : Nat} {r' : Nat → Row × Nat} (h : okG P L n T) (ha : agL L L' n) (hr : ∀ t, t ≤ T → r' t = rp P L n t) (hn : (r' (T + 1)).2 ≤ loS P L' (rp P L n T).1 (rp P L n T).2) : rS P L' r' (T + 1) = stS P L' (rp P L n T).1 (rp P L n T).2 (rS P L (rp P L n) T) := by
  show pkS L' (loS P L' (r' T).1 (r' T).2) ((r' (T + 1)).2 - loS P L' (r' T).1 (r' T).2) (stS P L' (r' T).1 (r' T).2 (rS P L' r' T)) = _
  rw [hr T (Nat.le_refl T), rS_ext h ha (Nat.le_refl T) hr T (Nat.le_refl T), show (r' (T + 1)).2 - loS P L' (rp P L n T).1 (rp P L n T).2 = 0 by omega]
  rfl
theorem PI_le {u : rg_U} {q T N n : Nat} (h : PI u q T N) (hn : n < N) : tn (u.2.1 (q + 1) n) ≤ T := by
  obtain ⟨s, p, hs, -, e, -⟩ := h.2.2.2.2.2 n hn
  have := h.2.2.1
  rw [e, tnn (by omega)]
  exact hs
/-- the sets go along with a step -/
theorem RX_step {uc v um um' : rg_U} {o N N' T : Nat} {e a b z : Int32} {Q : Nat → Prop} (h : RX uc um o 4) (h0 : PI uc (o + 12) T N) (hN8 : N < 3800) (h1 : PI v (o + 12) (T + 1) N') (hT : Tr um 4 = T) (hT' : Tr um' 4 = T + 1) (hPX : PX uc v o T N N' e a b z) (hS : ∀ t, t ≤ T → rS (Pm um' 4) (Lm um' 4) (rpm um' 4) t = rS (Pm um 4) (Lm um 4) (rpm um 4) t) (hgo : rS (Pm um' 4) (Lm um' 4) (rpm um' 4) (T + 1) = if z = -1 then rS (Pm um 4) (Lm um 4) (rpm um 4) T else stP (rS (Pm um 4) (Lm um 4) (rpm um 4) T) Q (tn z)) (ha : isPt N a) (hb : isPt N b) (hQ : ¬ z = -1 → ∀ k, k < 3808 → (Q k ↔ (k = T ∨ (∃ j, j < 800 ∧ e = nI j ∧ k = 3008 + j) ∨ (inS (uc.2.1 (o + 19)) (uc.2.1 (o + 20)) (uc.2.1 (o + 21)) (uc.2.1 (o + 22)) N a k ∨ inS (uc.2.1 (o + 19)) (uc.2.1 (o + 20)) (uc.2.1 (o + 21)) (uc.2.1 (o + 22)) N b k)))) : RX v um' o 4 := by
  have hT3 := h1.2.2.1
  unfold RX at h ⊢
  rw [h0.1, tnn (by omega), hT] at h
  rw [h1.1, tnn (by have := h1.2.1; omega), hT']
  obtain ⟨x1, x2⟩ := hPX
  have hc : ∀ n, n < N → v.2.1 (o + 13) n = uc.2.1 (o + 13) n ∧ v.2.1 (o + 14) n = uc.2.1 (o + 14) n ∧ v.2.1 (o + 19) n = uc.2.1 (o + 19) n ∧ v.2.1 (o + 20) n = uc.2.1 (o + 20) n ∧ v.2.1 (o + 21) n = uc.2.1 (o + 21) n ∧ v.2.1 (o + 22) n = uc.2.1 (o + 22) n := fun n hn => ⟨x1 _ n (by omega) (by omega) hn, x1 _ n (by omega) (by omega) hn, x1 _ n (by omega) (by omega) hn, x1 _ n (by omega) (by omega) hn, x1 _ n (by omega) (by omega) hn, x1 _ n (by omega) (by omega) hn⟩
  rcases x2 with ⟨y1, y2⟩ | ⟨y1, y2, y3, y4, y5, y6, y7⟩
  · rw [y1]
    rw [if_pos y2] at hgo
    exact RXC_stay h (fun n hn => PI_le h0 hn) hc hS (fun p k _ _ => by rw [hgo])
  · obtain ⟨s', p0, -, hp0, -, ep, -⟩ := h1.2.2.2.2.2 N (by omega)
    have ep' : v.2.1 (o + 14) N = nI p0 := ep
    have ez : z = nI p0 := y2.trans ep'
    have hz : ¬ z = -1 := by rw [ez]; exact nI_m1 (by omega)
    rw [if_neg hz, ez, tnn (by omega)] at hgo
    rw [y1]
    refine RXC_add (τ := T + 1) (p0 := p0) h (Or.inr rfl) hN8 hT3 (fun n hn => PI_le h0 hn) hc y7 ep' hp0 (Or.inr ⟨y3, rfl⟩) (by rw [y5]; exact ha) (by rw [y6]; exact hb) (fun t ht => hS t (by omega)) (fun p k hp hne hk => ?_) (fun k hk => ?_)
    · rw [hgo, stP_n hne]
    · rw [hgo, stP_y, hQ hz k hk, y3, y4, y5, y6]
      refine or_congr ⟨fun w => ⟨by omega, by rw [w]⟩, fun w => (nI_inj (by omega) (by omega) w.2).symm⟩ Iff.rfl
/-- a poke on both sides -/
theorem rS_poke {P : Prg} {L L' : Lg} {n T : Nat} (h : okW P L n T) (ha : agL L L' n) (h1 : L'.2.1 n = 2) (h2 : L'.1 n = nI T) : (∀ t, t < T → rS P L' (rp P L' (n + 1)) t = rS P L (rp P L n) t) ∧ rS P L' (rp P L' (n + 1)) T = stP (rS P L (rp P L n) T) (fun k => k = 3008 + n) (tn (L'.2.2.2.1 n)) := by
  obtain ⟨y1, y2⟩ := poke_rp h ha h1 h2
  have hG := h.1
  have hl : (rp P L n T).2 = n := h.2.2.1
  have hlo : ∀ t, t < T → rS P L' (rp P L' (n + 1)) t = rS P L (rp P L n) t := fun t ht => rS_ext (t0 := t) hG ha (by omega) (fun s hs => y1 s (by omega)) t (Nat.le_refl t)
  refine ⟨hlo, ?_⟩
  cases T with
  | zero =>
    show pkS L' 0 (rp P L' (n + 1) 0).2 (fun _ _ => False) = stP (pkS L 0 (rp P L n 0).2 (fun _ _ => False)) (fun k => k = 3008 + n) (tn (L'.2.2.2.1 n))
    rw [show (rp P L' (n + 1) 0).2 = n + 1 by rw [y2], hl]
    show stP (pkS L' 0 n (fun _ _ => False)) (fun k => k = 3008 + (0 + n)) (tn (L'.2.2.2.1 (0 + n))) = _
    rw [Nat.zero_add, pkS_c n (fun i _ h4 => (ha i (by omega)).2.2.2.1)]
  | succ T =>
    obtain ⟨i1, i2, i3⟩ := rp_ok hG T (by omega)
    have hmono := nxt_le hG (show T < T + 1 by omega)
    have es : mstep P (rp P L n T).1 (L'.2.2.1 (rp P L n T).2) (nI (rp P L n T).2) = mstep P (rp P L n T).1 (L.2.2.1 (rp P L n T).2) (nI (rp P L n T).2) := by
      by_cases q : kindOf P ((rp P L n T).1 120) = 19 ∨ kindOf P ((rp P L n T).1 120) = 20
      · rw [(ha _ (hG.2.2.2.2 T (by omega) q)).2.2.1]
      · exact step_num hG.1 i1 (fun z => q (Or.inl z)) (fun z => q (Or.inr z))
    have elo : loS P L' (rp P L n T).1 (rp P L n T).2 = loS P L (rp P L n T).1 (rp P L n T).2 := by
      unfold loS
      rw [es]
    have est : ∀ S, stS P L' (rp P L n T).1 (rp P L n T).2 S = stS P L (rp P L n T).1 (rp P L n T).2 S := fun S => by
      unfold stS
      rw [es]
    have hle : loS P L (rp P L n T).1 (rp P L n T).2 ≤ n := by
      have htk := nxt_l (num := L.2.2.1 (rp P L n T).2) hG.1 i1 (show (rp P L n T).2 < 2 ^ 31 by have := hG.2.2.1; omega)
      unfold loS
      rcases htk with q | ⟨q1, q2⟩
      · rw [if_pos q]
        exact i3
      · rw [if_neg q2]
        exact hG.2.2.2.2 T (by omega) q1
    show pkS L' (loS P L' (rp P L' (n + 1) T).1 (rp P L' (n + 1) T).2) ((rp P L' (n + 1) (T + 1)).2 - loS P L' (rp P L' (n + 1) T).1 (rp P L' (n + 1) T).2) (stS P L' (rp P L' (n + 1) T).1 (rp P L' (n + 1) T).2 (rS P L' (rp P L' (n + 1)) T)) = stP (pkS L (loS P L (rp P L n T).1 (rp P L n T).2) ((rp P L n (T + 1)).2 - loS P L (rp P L n T).1 (rp P L n T).2) (stS P L (rp P L n T).1 (rp P L n T).2 (rS P L (rp P L n) T))) (fun k => k = 3008 + n) (tn (L'.2.2.2.1 n))
    rw [y1 T (by omega), show (rp P L' (n + 1) (T + 1)).2 = n + 1 by rw [y2], hlo T (by omega), elo, est, hl]
    generalize loS P L (rp P L n T).1 (rp P L n T).2 = lo at *
    rw [show n + 1 - lo = (n - lo) + 1 by omega]
    show stP (pkS L' lo (n - lo) _) (fun k => k = 3008 + (lo + (n - lo))) (tn (L'.2.2.2.1 (lo + (n - lo)))) = _
    rw [show lo + (n - lo) = n by omega, pkS_c (n - lo) (fun i h3 h4 => (ha i (by omega)).2.2.2.1)]
theorem PX_c {u v u1 v1 : rg_U} {o T N N' : Nat} {e a b q : Int32} (h : PX u v o T N N' e a b q) (hu : ∀ j, o + 13 ≤ j → j ≤ o + 22 → u1.2.1 j = u.2.1 j) (hv : ∀ j, o + 13 ≤ j → j ≤ o + 22 → v1.2.1 j = v.2.1 j) : PX u1 v1 o T N N' e a b q := by
  refine ⟨fun j n j1 j2 hn => ?_, ?_⟩
  · rw [hu j j1 j2, hv j j1 j2]
    exact h.1 j n j1 j2 hn
  · rw [hv (o + 14) (by omega) (by omega), hv (o + 19) (by omega) (by omega), hv (o + 20) (by omega) (by omega), hv (o + 21) (by omega) (by omega), hv (o + 22) (by omega) (by omega), hv (o + 13) (by omega) (by omega)]
    exact h.2
theorem mstep_none {P : Prg} {m : Row} {num en : Int32} (ek : kindOf P (m 120) = -1) : (mstep P m num en).2.2.2 = -1 := by
  unfold mstep
  dsimp only
  rw [if_pos ek]
  rfl
theorem mstep_do {P : Prg} {m : Row} {num en : Int32} {k cn : Nat} (hk : k < 23) (ek : kindOf P (m 120) = nI k) (hc : m 120 = nI cn) (hcn : cn < 64) : (mstep P m num en).2.2.2 = (mdo (upd m 120 (imin 64 (m 120 + 1))) k (P.2.1 cn) (P.2.2.1 cn) (P.2.2.2 cn) num en).2.2.2 := by
  unfold mstep
  dsimp only
  rw [if_neg (by rw [ek]; exact nI_m1 (by omega)), ek, hc, tnn (show k < 2 ^ 31 by omega), tnn (show cn < 2 ^ 31 by omega)]
theorem lkS_I {P : Prg} {m : Row} {l T N k cn : Nat} {num en z : Int32} {S : SetB} {s e a b pp : Nat → Int32} (hk : k < 23) (ek : kindOf P (m 120) = nI k) (hc : m 120 = nI cn) (hcn : cn < 64) (hv : ¬ g_X10_isFine (nI k) (P.2.1 cn) (P.2.2.1 cn) (P.2.2.2 cn) = 0) (hT : m 133 = nI T) (hT3 : T < 3000) (hl : k = 19 ∨ k = 20 → l < 800) (hz : (mstep P m num en).2.2.2 = z) (hN : N ≤ 3800) (hI : ∀ p x, p < 40 → x < 3808 → (S p x ↔ inS s e a b N (lat pp p N) x)) (hz1 : ¬ z = -1) (x : Nat) (hx : x < 3808) : lkS P m l S x ↔ (x = T ∨ (∃ j, j < 800 ∧ (lkV k (P.2.1 cn) (P.2.2.1 cn) (P.2.2.2 cn) l (upd m 120 (imin 64 (m 120 + 1))) pp N).1 = nI j ∧ x = 3008 + j) ∨ (inS s e a b N (lkV k (P.2.1 cn) (P.2.2.1 cn) (P.2.2.2 cn) l (upd m 120 (imin 64 (m 120 + 1))) pp N).2.1 x ∨ inS s e a b N (lkV k (P.2.1 cn) (P.2.2.1 cn) (P.2.2.2 cn) l (upd m 120 (imin 64 (m 120 + 1))) pp N).2.2 x)) := by
  refine lkS_V (num := num) (en := en) (I := fun y => inS s e a b N y x) hk ek hc hcn hv hT hT3 hl ?_ (fun p hp => hI p x hp hx) ?_
  · rw [← mstep_do hk ek hc hcn, hz]
    exact hz1
  · rintro ⟨n, hn, e1, -⟩
    exact nI_m1 (by omega) e1.symm
/-- the sets go along with a poke -/
theorem RX_poke {uc v um um' : rg_U} {o N T n p : Nat} (h : RX uc um o 4) (h0 : PI uc (o + 12) T N) (hN8 : N < 3800) (h1 : rF v (o + 12) 11 = nI (N + 1)) (hT : Tr um 4 = T) (hT' : Tr um' 4 = T) (hold : ∀ j i, o + 13 ≤ j → j ≤ o + 22 → i < N → v.2.1 j i = uc.2.1 j i) (hp : p < 40) (hnew : v.2.1 (o + 13) N = nI T ∧ v.2.1 (o + 14) N = nI p ∧ v.2.1 (o + 19) N = -1 ∧ v.2.1 (o + 20) N = nI n ∧ v.2.1 (o + 21) N = -1 ∧ v.2.1 (o + 22) N = -1) (hn : n < 800) (hS : ∀ t, t < T → rS (Pm um' 4) (Lm um' 4) (rpm um' 4) t = rS (Pm um 4) (Lm um 4) (rpm um 4) t) (hS' : rS (Pm um' 4) (Lm um' 4) (rpm um' 4) T = stP (rS (Pm um 4) (Lm um 4) (rpm um 4) T) (fun k => k = 3008 + n) p) : RX v um' o 4 := by
  obtain ⟨y1, y2, y3, y4, y5, y6⟩ := hnew
  have hT3 := h0.2.2.1
  unfold RX at h ⊢
  rw [h0.1, tnn (by omega), hT] at h
  rw [h1, tnn (by omega), hT']
  have hc : ∀ n, n < N → v.2.1 (o + 13) n = uc.2.1 (o + 13) n ∧ v.2.1 (o + 14) n = uc.2.1 (o + 14) n ∧ v.2.1 (o + 19) n = uc.2.1 (o + 19) n ∧ v.2.1 (o + 20) n = uc.2.1 (o + 20) n ∧ v.2.1 (o + 21) n = uc.2.1 (o + 21) n ∧ v.2.1 (o + 22) n = uc.2.1 (o + 22) n := fun n hn => ⟨hold _ n (by omega) (by omega) hn, hold _ n (by omega) (by omega) hn, hold _ n (by omega) (by omega) hn, hold _ n (by omega) (by omega) hn, hold _ n (by omega) (by omega) hn, hold _ n (by omega) (by omega) hn⟩
  refine RXC_add (τ := T) (p0 := p) h (Or.inl rfl) hN8 hT3 (fun n hn => PI_le h0 hn) hc y1 y2 hp (Or.inl y3) (Or.inl y5) (Or.inl y6) hS (fun p' k hp' hne hk => ?_) (fun k hk => ?_)
  · rw [hS', stP_n hne]
  · rw [hS', stP_y, y3, y4, y5, y6]
    constructor
    · intro w
      exact Or.inr (Or.inl ⟨n, hn, rfl, w⟩)
    · rintro (⟨-, w⟩ | ⟨j, hj, e1, w⟩ | ⟨m, hm, e1, -⟩ | ⟨m, hm, e1, -⟩)
      · exact absurd w.symm (nI_m1 (by omega))
      · rw [nI_inj (by omega) (by omega) e1]
        exact w
      · exact absurd e1.symm (nI_m1 (by omega))
      · exact absurd e1.symm (nI_m1 (by omega))
theorem RX_back {uc v um um' : rg_U} {o N T t : Nat} (h : RX uc um o 4) (h0 : PI uc (o + 12) T N) (hT : Tr um 4 = T) (ht : t ≤ T) (hN : rF v (o + 12) 11 = nI (cP (uc.2.1 (o + 13)) t N)) (ha : ∀ j, o + 13 ≤ j → j ≤ o + 22 → v.2.1 j = uc.2.1 j) (hT' : Tr um' 4 = t) (hS : ∀ s, s ≤ t → rS (Pm um' 4) (Lm um' 4) (rpm um' 4) s = rS (Pm um 4) (Lm um 4) (rpm um 4) s) : RX v um' o 4 := by
  have hN8 := h0.2.1
  have hle := cP_le (pt := uc.2.1 (o + 13)) (t := t) N
  unfold RX at h ⊢
  rw [h0.1, tnn (by omega), hT] at h
  rw [ha (o + 13) (by omega) (by omega), ha (o + 14) (by omega) (by omega), ha (o + 19) (by omega) (by omega), ha (o + 20) (by omega) (by omega), ha (o + 21) (by omega) (by omega), ha (o + 22) (by omega) (by omega), hN, tnn (by omega), hT']
  exact RXC_c (RXC_cut h h0.2.2.2.1 hN8 ht) (fun _ _ => ⟨rfl, rfl, rfl, rfl, rfl, rfl⟩) hS
theorem RX_mv {uc w um um' : rg_U} {o0 o1 K N : Nat} (h : RX uc um o1 4) (h1 : rF uc (o1 + 12) 11 = nI N) (hN8 : N ≤ 3800) (h2 : rF w (o0 + 12) 11 = nI N) (hc : ∀ z n, 13 ≤ z → z ≤ 22 → n < N → w.2.1 (o0 + z) n = uc.2.1 (o1 + z) n) (hP : Pm um' K = Pm um 4) (hL : Lm um' K = Lm um 4) (hR : ∀ t, rpm um' K t = rpm um 4 t) (hT : Tr um' K = Tr um 4) : RX w um' o0 K := by
  unfold RX at h ⊢
  rw [h1, tnn (by omega)] at h
  rw [h2, tnn (by omega), hT, hP, hL, show rpm um' K = rpm um 4 from funext hR]
  exact RXC_c h (fun n hn => ⟨hc 13 n (by omega) (by omega) hn, hc 14 n (by omega) (by omega) hn, hc 19 n (by omega) (by omega) hn, hc 20 n (by omega) (by omega) hn, hc 21 n (by omega) (by omega) hn, hc 22 n (by omega) (by omega) hn⟩) (fun _ _ => rfl)
theorem rest_new {u : rg_U} {q N p : Nat} {x s n ch old a b c d : Int32} : (restS (addS u q N p x s n ch old) q N a b c d).2.1 (q + 1) N = x ∧ (restS (addS u q N p x s n ch old) q N a b c d).2.1 (q + 2) N = nI p ∧ (restS (addS u q N p x s n ch old) q N a b c d).2.1 (q + 7) N = a ∧ (restS (addS u q N p x s n ch old) q N a b c d).2.1 (q + 8) N = b ∧ (restS (addS u q N p x s n ch old) q N a b c d).2.1 (q + 9) N = c ∧ (restS (addS u q N p x s n ch old) q N a b c d).2.1 (q + 10) N = d := by
  refine ⟨?_, ?_, ?_, ?_, ?_, ?_⟩
  · rw [restS_n (by omega), addS_1, pk_us]
  · rw [restS_n (by omega), addS_2, pk_us]
  · unfold restS
    rw [R_n (by omega), R_n (by omega), R_n (by omega), R_s, pk_us]
  · unfold restS
    rw [R_n (by omega), R_n (by omega), R_s, pk_us]
  · unfold restS
    rw [R_n (by omega), R_s, pk_us]
  · unfold restS
    rw [R_s, pk_us]
theorem rest_old {u : rg_U} {q N p j i : Nat} {x s n ch old a b c d : Int32} (j1 : q + 1 ≤ j) (j2 : j ≤ q + 10) (hi : i < N) : (restS (addS u q N p x s n ch old) q N a b c d).2.1 j i = u.2.1 j i := by
  unfold restS addS
  simp only [R_at, sF_A]
  rw [if_neg (by omega), if_neg (by omega), if_neg (by omega), if_neg (by omega), if_neg (by omega), if_neg (by omega), if_neg (by omega), if_neg (by omega), if_neg (by omega), if_neg (by omega), if_neg (by omega)]
