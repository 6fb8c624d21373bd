section W_66
-- 97zyz.sets
/-! what a put rests on: steps (below 3008) and entries of the log (from 3008 on), as sets -/
abbrev SetB : Type := Nat → Nat → Prop
def stP (S : SetB) (Q : Nat → Prop) (p : Nat) : SetB := fun p' k => if p' = p then Q k else S p' k
theorem stP_y {S : SetB} {Q : Nat → Prop} {p k : Nat} : stP S Q p p k = Q k := if_pos rfl
theorem stP_n {S : SetB} {Q : Nat → Prop} {p p' k : Nat} (h : p' ≠ p) : stP S Q p p' k = S p' k := if_neg h
/-- the set of the n-th of N puts: its step, its entry, and what the two puts have that were looked at -/
def RsT (s e a b : Nat → Int32) : Nat → Nat → Nat → Prop
  | 0, _, _ => False
  | N + 1, n, k => if n = N then ((k < 3008 ∧ s N = nI k) ∨ (∃ j, j < 800 ∧ e N = nI j ∧ k = 3008 + j) ∨ (∃ m, m < N ∧ a N = nI m ∧ RsT s e a b N m k) ∨ ∃ m, m < N ∧ b N = nI m ∧ RsT s e a b N m k) else RsT s e a b N n k
def inS (s e a b : Nat → Int32) (N : Nat) (x : Int32) (k : Nat) : Prop := ∃ n, n < N ∧ x = nI n ∧ RsT s e a b N n k
section ZA
variable {pt pp s e a b pt' pp' s' e' a' b' : Nat → Int32} {N T M M' n k : Nat} {x : Int32} {S S' : Nat → SetB}
theorem RsT_s : RsT s e a b (N + 1) N k ↔ ((k < 3008 ∧ s N = nI k) ∨ (∃ j, j < 800 ∧ e N = nI j ∧ k = 3008 + j) ∨ inS s e a b N (a N) k ∨ inS s e a b N (b N) k) := by
  show (if N = N then _ else _) ↔ _
  rw [if_pos rfl]
  exact Iff.rfl
theorem RsT_n (h : n ≠ N) : RsT s e a b (N + 1) n k = RsT s e a b N n k := if_neg h
theorem RsT_up (h : n < M) : ∀ N, M ≤ N → RsT s e a b N n k = RsT s e a b M n k
  | 0, hN => by omega
  | N + 1, hN => by
    rcases Nat.lt_or_ge N M with y | y
    · rw [show M = N + 1 by omega]
    · rw [RsT_n (by omega)]
      exact RsT_up h N y
theorem RsT_c : ∀ N, (∀ n, n < N → s' n = s n ∧ e' n = e n ∧ a' n = a n ∧ b' n = b n) → RsT s' e' a' b' N = RsT s e a b N
  | 0, _ => by
    funext n k
    rfl
  | N + 1, h => by
    obtain ⟨h1, h2, h3, h4⟩ := h N (by omega)
    funext n k
    show (if n = N then ((k < 3008 ∧ s' N = nI k) ∨ (∃ j, j < 800 ∧ e' N = nI j ∧ k = 3008 + j) ∨ (∃ m, m < N ∧ a' N = nI m ∧ RsT s' e' a' b' N m k) ∨ ∃ m, m < N ∧ b' N = nI m ∧ RsT s' e' a' b' N m k) else RsT s' e' a' b' N n k) = _
    rw [h1, h2, h3, h4, RsT_c N (fun i hi => h i (by omega))]
    rfl
theorem inS_cut (hx : isPt M x) (h1 : M ≤ M') (h2 : M' ≤ N) (hN : N < 2 ^ 31) : inS s e a b N x k ↔ inS s e a b M' x k := by
  rcases hx with rfl | ⟨m, hm, rfl⟩
  · constructor
    · rintro ⟨n, hn, e1, -⟩
      exact absurd e1.symm (nI_m1 (by omega))
    · rintro ⟨n, hn, e1, -⟩
      exact absurd e1.symm (nI_m1 (by omega))
  · constructor
    · rintro ⟨n, hn, e1, hr⟩
      have en : m = n := nI_inj (by omega) (by omega) e1
      rw [← en, RsT_up (M := M') (by omega) N h2] at hr
      exact ⟨m, by omega, rfl, hr⟩
    · rintro ⟨n, hn, e1, hr⟩
      have en : m = n := nI_inj (by omega) (by omega) e1
      rw [← en] at hr
      refine ⟨m, by omega, rfl, ?_⟩
      rw [RsT_up (M := M') (by omega) N h2]
      exact hr
/-- the columns of N puts, up to time T, tell the sets of S -/
def RXC (pt pp s e a b : Nat → Int32) (N T : Nat) (S : Nat → SetB) : Prop := (∀ n, n < N → (s n = -1 ∨ ∃ k, k < 3000 ∧ s n = nI k ∧ pt n = nI (k + 1)) ∧ isPt n (a n) ∧ isPt n (b n)) ∧ (∀ i j k, i < N → j < N → k < 3000 → s i = nI k → s j = nI k → i = j) ∧ ∀ t p k, t ≤ T → p < 40 → k < 3808 → (S t p k ↔ inS s e a b N (lat pp p (cP pt t N)) k)
theorem RXC_c (h : RXC pt pp s e a b N T S) (hc : ∀ n, n < N → pt' n = pt n ∧ pp' n = pp n ∧ s' n = s n ∧ e' n = e n ∧ a' n = a n ∧ b' n = b n) (hS : ∀ t, t ≤ T → S' t = S t) : RXC pt' pp' s' e' a' b' N T S' := by
  obtain ⟨h1, h2, h3⟩ := h
  refine ⟨fun n hn => ?_, fun i j k hi hj hk e1 e2 => ?_, fun t p k ht hp hk => ?_⟩
  · obtain ⟨c1, c2, c3, c4, c5, c6⟩ := hc n hn
    rw [c1, c3, c5, c6]
    exact h1 n hn
  · rw [(hc i hi).2.2.1] at e1
    rw [(hc j hj).2.2.1] at e2
    exact h2 i j k hi hj hk e1 e2
  · rw [hS t ht, cP_c N (fun n hn => (hc n hn).1), lat_c (cP pt t N) (fun n hn => (hc n (Nat.lt_of_lt_of_le hn (cP_le N))).2.1)]
    unfold inS
    rw [RsT_c N (fun n hn => ⟨(hc n hn).2.2.1, (hc n hn).2.2.2.1, (hc n hn).2.2.2.2.1, (hc n hn).2.2.2.2.2⟩)]
    exact h3 t p k ht hp hk
theorem RXC_0 (hS : ∀ p k, ¬ S 0 p k) : RXC pt pp s e a b 0 0 S := ⟨fun n hn => absurd hn (Nat.not_lt_zero n), fun i _ _ hi => absurd hi (Nat.not_lt_zero i), fun t p k ht hp hk => by
  rw [show t = 0 by omega]
  exact ⟨fun z => absurd z (hS p k), fun ⟨n, hn, _⟩ => absurd hn (Nat.not_lt_zero n)⟩⟩
theorem RXC_cut {t0 : Nat} (h : RXC pt pp s e a b N T S) (hm : monoP pt N) (hN : N ≤ 3800) (h0 : t0 ≤ T) : RXC pt pp s e a b (cP pt t0 N) t0 S := by
  obtain ⟨h1, h2, h3⟩ := h
  have hle := cP_le (pt := pt) (t := t0) N
  refine ⟨fun n hn => h1 n (by omega), fun i j k hi hj hk e1 e2 => h2 i j k (by omega) (by omega) hk e1 e2, fun t p k ht hp hk => ?_⟩
  rw [h3 t p k (by omega) hp hk, cP_cut hm ht]
  exact inS_cut (lat_pt (cP pt t N)) (cP_mono ht N) hle (by omega)
theorem RXC_add {τ p0 : Nat} (h : RXC pt pp s e a b N T S) (hτ : τ = T ∨ τ = T + 1) (hN : N < 3800) (hT : τ ≤ 3000) (hle : ∀ n, n < N → tn (pt n) ≤ T) (hc : ∀ n, n < N → pt' n = pt n ∧ pp' n = pp n ∧ s' n = s n ∧ e' n = e n ∧ a' n = a n ∧ b' n = b n) (hpt : pt' N = nI τ) (hpp : pp' N = nI p0) (hp0 : p0 < 40) (hs : s' N = -1 ∨ (s' N = nI T ∧ τ = T + 1)) (ha : isPt N (a' N)) (hb : isPt N (b' N)) (hS : ∀ t, t < τ → S' t = S t) (hS1 : ∀ p k, p < 40 → p ≠ p0 → k < 3808 → (S' τ p k ↔ S T p k)) (hS2 : ∀ k, k < 3808 → (S' τ p0 k ↔ ((k < 3008 ∧ s' N = nI k) ∨ (∃ j, j < 800 ∧ e' N = nI j ∧ k = 3008 + j) ∨ inS s e a b N (a' N) k ∨ inS s e a b N (b' N) k))) : RXC pt' pp' s' e' a' b' (N + 1) τ S' := by
  obtain ⟨h1, h2, h3⟩ := RXC_c (S' := S) h hc (fun _ _ => rfl)
  have hle' : ∀ n, n < N → tn (pt' n) ≤ T := fun n hn => by
    rw [(hc n hn).1]
    exact hle n hn
  have hall : cP pt' T N = N := cP_all hle'
  have eR : RsT s' e' a' b' N = RsT s e a b N := RsT_c N (fun n hn => ⟨(hc n hn).2.2.1, (hc n hn).2.2.2.1, (hc n hn).2.2.2.2.1, (hc n hn).2.2.2.2.2⟩)
  have eI : ∀ x k, inS s' e' a' b' N x k = inS s e a b N x k := fun x k => by
    unfold inS
    rw [eR]
  refine ⟨fun n hn => ?_, fun i j k hi hj hk e1 e2 => ?_, fun t p k ht hp hk => ?_⟩
  · rcases Nat.lt_or_ge n N with y | y
    · exact h1 n y
    · rw [show n = N by omega]
      refine ⟨?_, ha, hb⟩
      rcases hs with z | ⟨z1, z2⟩
      · exact Or.inl z
      · exact Or.inr ⟨T, by omega, z1, by rw [hpt, z2]⟩
  · have key : ∀ i, i < N → ∀ k, k < 3000 → s' i = nI k → s' N = nI k → False := fun i hi k hk e1 e2 => by
      rcases hs with z | ⟨z1, z2⟩
      · rw [z] at e2
        exact nI_m1 (by omega) e2.symm
      · have ek : T = k := nI_inj (by omega) (by omega) (z1.symm.trans e2)
        rcases (h1 i hi).1 with w | ⟨k', hk', w1, w2⟩
        · rw [w] at e1
          exact nI_m1 (by omega) e1.symm
        · have ek' : k' = k := nI_inj (by omega) (by omega) (w1.symm.trans e1)
          have := hle' i hi
          rw [w2, tnn (by omega)] at this
          omega
    rcases Nat.lt_or_ge i N with yi | yi
    · rcases Nat.lt_or_ge j N with yj | yj
      · exact h2 i j k yi yj hk e1 e2
      · rw [show j = N by omega] at e2
        exact (key i yi k hk e1 e2).elim
    · rcases Nat.lt_or_ge j N with yj | yj
      · rw [show i = N by omega] at e1
        exact (key j yj k hk e2 e1).elim
      · omega
  · have htn : tn (pt' N) = τ := by rw [hpt, tnn (by omega)]
    rcases Nat.lt_or_ge t τ with y | y
    · rw [hS t y, h3 t p k (by omega) hp hk, cP_n (show ¬ tn (pt' N) ≤ t by omega)]
      exact (inS_cut (lat_pt (cP pt' t N)) (cP_le N) (Nat.le_succ N) (by omega)).symm
    · rw [show t = τ by omega, cP_y (show tn (pt' N) ≤ τ by omega)]
      by_cases q : p = p0
      · rw [q, lat_y hpp, hS2 k hk]
        constructor
        · intro w
          refine ⟨N, Nat.lt_succ_self N, rfl, RsT_s.mpr ?_⟩
          rw [eI, eI]
          exact w
        · rintro ⟨n, hn, e1, hr⟩
          have en : N = n := nI_inj (by omega) (by omega) e1
          rw [← en] at hr
          have w := RsT_s.mp hr
          rw [eI, eI] at w
          exact w
      · rw [lat_n (by rw [hpp]; exact fun z => q (nI_inj (by omega) (by omega) z).symm), hS1 p k hp q hk, h3 T p k (Nat.le_refl T) hp hk, hall]
        exact (inS_cut (lat_pt N) (Nat.le_refl N) (Nat.le_succ N) (by omega)).symm
theorem RXC_stay (h : RXC pt pp s e a b N T S) (hle : ∀ n, n < N → tn (pt n) ≤ T) (hc : ∀ n, n < N → pt' n = pt n ∧ pp' n = pp n ∧ s' n = s n ∧ e' n = e n ∧ a' n = a n ∧ b' n = b n) (hS : ∀ t, t ≤ T → S' t = S t) (hS1 : ∀ p k, p < 40 → k < 3808 → (S' (T + 1) p k ↔ S T p k)) : RXC pt' pp' s' e' a' b' N (T + 1) S' := by
  obtain ⟨h1, h2, h3⟩ := RXC_c (S' := S') h hc hS
  have hle' : ∀ n, n < N → tn (pt' n) ≤ T := fun n hn => by
    rw [(hc n hn).1]
    exact hle n hn
  refine ⟨h1, h2, fun t p k ht hp hk => ?_⟩
  rcases Nat.lt_or_ge T t with y | y
  · rw [show t = T + 1 by omega, hS1 p k hp hk, cP_all (fun n hn => Nat.le_succ_of_le (hle' n hn))]
    have w := h3 T p k (Nat.le_refl T) hp hk
    rw [hS T (Nat.le_refl T), cP_all hle'] at w
    exact w
  · exact h3 t p k y hp hk
end ZA
/-! the reference's sets by time -/
/-- f pokes, from the log's entry lo on -/
def pkS (L : Lg) (lo : Nat) : Nat → SetB → SetB
  | 0, S => S
  | f + 1, S => stP (pkS L lo f S) (fun k => k = 3008 + (lo + f)) (tn (L.2.2.2.1 (lo + f)))
theorem pkS_1 {L : Lg} {lo : Nat} {S : SetB} : ∀ f, pkS L lo (f + 1) S = pkS L (lo + 1) f (stP S (fun k => k = 3008 + lo) (tn (L.2.2.2.1 lo)))
  | 0 => rfl
  | f + 1 => by
    show stP (pkS L lo (f + 1) S) (fun k => k = 3008 + (lo + (f + 1))) (tn (L.2.2.2.1 (lo + (f + 1)))) = stP (pkS L (lo + 1) f (stP S (fun k => k = 3008 + lo) (tn (L.2.2.2.1 lo)))) (fun k => k = 3008 + (lo + 1 + f)) (tn (L.2.2.2.1 (lo + 1 + f)))
    rw [pkS_1 f, show lo + (f + 1) = lo + 1 + f by omega]
theorem pkS_c {L L' : Lg} {lo : Nat} {S : SetB} : ∀ f, (∀ i, lo ≤ i → i < lo + f → L'.2.2.2.1 i = L.2.2.2.1 i) → pkS L' lo f S = pkS L lo f S
  | 0, _ => rfl
  | f + 1, h => by
    show stP (pkS L' lo f S) (fun k => k = 3008 + (lo + f)) (tn (L'.2.2.2.1 (lo + f))) = stP (pkS L lo f S) (fun k => k = 3008 + (lo + f)) (tn (L.2.2.2.1 (lo + f)))
    rw [pkS_c f (fun i h1 h2 => h i h1 (by omega)), h (lo + f) (by omega) (by omega)]
/-- what the put of a step rests on -/
def lkS (P : Prg) (m : Row) (l : Nat) (S : SetB) (x : Nat) : Prop := ¬ kindOf P (m 120) = -1 ∧ ((((((False ∨ ((kindOf P (m 120) = 3 ∨ kindOf P (m 120) = 11 ∨ kindOf P (m 120) = 14 ∨ kindOf P (m 120) = 13 ∨ ¬ g_X10_isIn (kindOf P (m 120)) 4 10 = 0 ∨ kindOf P (m 120) = 12) ∧ S (tn (P.2.2.1 (tn (m 120)))) x)) ∨ ((¬ g_X10_isIn (kindOf P (m 120)) 4 10 = 0 ∨ kindOf P (m 120) = 12) ∧ S (tn (P.2.2.2 (tn (m 120)))) x)) ∨ (kindOf P (m 120) = 14 ∧ S (tn (P.2.1 (tn (m 120)))) x)) ∨ ((kindOf P (m 120) = 13 ∧ ¬ g_X10_isIn (m (40 + tn (P.2.2.1 (tn (m 120))))) 0 31 = 0) ∧ S (8 + tn (m (40 + tn (P.2.2.1 (tn (m 120)))))) x)) ∨ ((kindOf P (m 120) = 19 ∨ kindOf P (m 120) = 20) ∧ x = 3008 + l)) ∨ x = tn (m 133))
def stS (P : Prg) (L : Lg) (m : Row) (l : Nat) (S : SetB) : SetB := if (mstep P m (L.2.2.1 l) (nI l)).2.2.2 = -1 then S else stP S (lkS P m l S) (tn (mstep P m (L.2.2.1 l) (nI l)).2.2.2)
def loS (P : Prg) (L : Lg) (m : Row) (l : Nat) : Nat := if (mstep P m (L.2.2.1 l) (nI l)).2.2.1 = -1 then l else l + 1
/-- the sets at each time of a replay r -/
def rS (P : Prg) (L : Lg) (r : Nat → Row × Nat) : Nat → SetB
  | 0 => pkS L 0 (r 0).2 (fun _ _ => False)
  | t + 1 => pkS L (loS P L (r t).1 (r t).2) ((r (t + 1)).2 - loS P L (r t).1 (r t).2) (stS P L (r t).1 (r t).2 (rS P L r t))
theorem rS_ext {P : Prg} {L L' : Lg} {n T t0 : Nat} {r' : Nat → Row × Nat} (h : okG P L n T) (ha : agL L L' n) (h0 : t0 ≤ T) (hr : ∀ t, t ≤ t0 → r' t = rp P L n t) : ∀ t, t ≤ t0 → rS P L' r' t = rS P L (rp P L n) t
  | 0, ht => by
    show pkS L' 0 (r' 0).2 (fun _ _ => False) = pkS L 0 (rp P L n 0).2 (fun _ _ => False)
    rw [hr 0 ht]
    have h1 := (rp_ok h 0 (by omega)).2.2
    exact pkS_c _ (fun i _ h2 => (ha i (by omega)).2.2.2.1)
  | t + 1, ht => by
    obtain ⟨i1, i2, i3⟩ := rp_ok h t (by omega)
    have i4 := (rp_ok h (t + 1) (by omega)).2.2
    have es : mstep P (rp P L n t).1 (L'.2.2.1 (rp P L n t).2) (nI (rp P L n t).2) = mstep P (rp P L n t).1 (L.2.2.1 (rp P L n t).2) (nI (rp P L n t).2) := by
      by_cases q : kindOf P ((rp P L n t).1 120) = 19 ∨ kindOf P ((rp P L n t).1 120) = 20
      · rw [(ha _ (h.2.2.2.2 t (by omega) q)).2.2.1]
      · exact step_num h.1 i1 (fun z => q (Or.inl z)) (fun z => q (Or.inr z))
    have elo : loS P L' (rp P L n t).1 (rp P L n t).2 = loS P L (rp P L n t).1 (rp P L n t).2 := by
      unfold loS
      rw [es]
    have est : ∀ S, stS P L' (rp P L n t).1 (rp P L n t).2 S = stS P L (rp P L n t).1 (rp P L n t).2 S := fun S => by
      unfold stS
      rw [es]
    show pkS L' (loS P L' (r' t).1 (r' t).2) ((r' (t + 1)).2 - loS P L' (r' t).1 (r' t).2) (stS P L' (r' t).1 (r' t).2 (rS P L' r' t)) = pkS L (loS P L (rp P L n t).1 (rp P L n t).2) ((rp P L n (t + 1)).2 - loS P L (rp P L n t).1 (rp P L n t).2) (stS P L (rp P L n t).1 (rp P L n t).2 (rS P L (rp P L n) t))
    rw [hr t (by omega), hr (t + 1) ht, rS_ext h ha h0 hr t (by omega), elo, est]
    exact pkS_c _ (fun i h1 h2 => (ha i (by omega)).2.2.2.1)
/-- the columns of the run at o tell the sets of the reference's run r -/
def RX (u um : rg_U) (o r : Nat) : Prop := RXC (u.2.1 (o + 13)) (u.2.1 (o + 14)) (u.2.1 (o + 19)) (u.2.1 (o + 20)) (u.2.1 (o + 21)) (u.2.1 (o + 22)) (tn (rF u (o + 12) 11)) (Tr um r) (rS (Pm um r) (Lm um r) (rpm um r))
theorem RX_f {u u' um : rg_U} {o r : Nat} (h : RX u um o r) (ha : ∀ j, o + 13 ≤ j → j ≤ o + 22 → u'.2.1 j = u.2.1 j) (hf : rF u' (o + 12) 11 = rF u (o + 12) 11) : RX u' um o r := by
  unfold RX
  rw [ha (o + 13) (by omega) (by omega), ha (o + 14) (by omega) (by omega), ha (o + 19) (by omega) (by omega), ha (o + 20) (by omega) (by omega), ha (o + 21) (by omega) (by omega), ha (o + 22) (by omega) (by omega), hf]
  exact h
theorem RX_m {u um um' : rg_U} {o r : Nat} (h : RX u um o r) (hP : Pm um' r = Pm um r) (hL : Lm um' r = Lm um r) (hR : ∀ t, rpm um' r t = rpm um r t) (hT : Tr um' r = Tr um r) : RX u um' o r := by
  unfold RX
  rw [hP, hL, hT, show rpm um' r = rpm um r from funext hR]
  exact h
end W_66
section W_67
-- 97zyzb.step
/-! what a put rests on: a step on both sides -/
theorem kc1 : ∀ k, k < 23 → ((nI k = 3 ∨ nI k = 11 ∨ nI k = 14 ∨ nI k = 13 ∨ ¬ g_X10_isIn (nI k) 4 10 = 0 ∨ nI k = 12) ↔ (k = 3 ∨ k = 11 ∨ k = 14 ∨ k = 13 ∨ (4 ≤ k ∧ k ≤ 10) ∨ k = 12)) := by decide +kernel
theorem kc2 : ∀ k, k < 23 → ((¬ g_X10_isIn (nI k) 4 10 = 0 ∨ nI k = 12) ↔ ((4 ≤ k ∧ k ≤ 10) ∨ k = 12)) := by decide +kernel
theorem kc3 : ∀ k, k < 23 → (nI k = 14 ↔ k = 14) := by decide +kernel
theorem kc4 : ∀ k, k < 23 → (nI k = 13 ↔ k = 13) := by decide +kernel
theorem kc5 : ∀ k, k < 23 → ((nI k = 19 ∨ nI k = 20) ↔ (k = 19 ∨ k = 20)) := by decide +kernel
theorem lk7 {c1 c2 c3 c4 c5 A B C D E X : Prop} : ((((((False ∨ (c1 ∧ A)) ∨ (c2 ∧ B)) ∨ (c3 ∧ C)) ∨ (c4 ∧ D)) ∨ (c5 ∧ E)) ∨ X) ↔ (X ∨ (c5 ∧ E) ∨ ((c1 ∧ A) ∨ (c2 ∧ B) ∨ (c3 ∧ C) ∨ (c4 ∧ D))) := by
  constructor
  · rintro ((((((w | w) | w) | w) | w) | w) | w)
    · exact w.elim
    · exact Or.inr (Or.inr (Or.inl w))
    · exact Or.inr (Or.inr (Or.inr (Or.inl w)))
    · exact Or.inr (Or.inr (Or.inr (Or.inr (Or.inl w))))
    · exact Or.inr (Or.inr (Or.inr (Or.inr (Or.inr w))))
    · exact Or.inr (Or.inl w)
    · exact Or.inl w
  · rintro (w | w | w | w | w | w)
    · exact Or.inr w
    · exact Or.inl (Or.inr w)
    · exact Or.inl (Or.inl (Or.inl (Or.inl (Or.inl (Or.inr w)))))
    · exact Or.inl (Or.inl (Or.inl (Or.inl (Or.inr w))))
    · exact Or.inl (Or.inl (Or.inl (Or.inr w)))
    · exact Or.inl (Or.inl (Or.inr w))
theorem lkE_no {c : Prop} {l x : Nat} (hc : ¬ c) : (c ∧ x = 3008 + l) ↔ ∃ j, j < 800 ∧ (-1 : Int32) = nI j ∧ x = 3008 + j := ⟨fun w => absurd w.1 hc, fun ⟨j, hj, e, _⟩ => absurd e.symm (nI_m1 (by omega))⟩
theorem lkE_y {c : Prop} {l x : Nat} (hc : c) (hl : l < 800) : (c ∧ x = 3008 + l) ↔ ∃ j, j < 800 ∧ nI l = nI j ∧ x = 3008 + j := ⟨fun w => ⟨l, hl, rfl, w.2⟩, fun ⟨j, hj, e, w⟩ => ⟨hc, by rw [nI_inj (by omega) (by omega) e]; exact w⟩⟩
theorem lkS_V {P : Prg} {m : Row} {l T N x k cn : Nat} {y num en : Int32} {S : SetB} {I : Int32 → Prop} {pp : Nat → Int32} (hk : k < 23) (ek : kindOf P (m 120) = nI k) (hc : m 120 = nI cn) (hcn : cn < 64) (hv : ¬ g_X10_isFine (nI k) (P.2.1 cn) (P.2.2.1 cn) (P.2.2.2 cn) = 0) (hT : m 133 = nI T) (hT3 : T < 3000) (hl : k = 19 ∨ k = 20 → l < 800) (hput : ¬ (mdo (upd m 120 y) k (P.2.1 cn) (P.2.2.1 cn) (P.2.2.2 cn) num en).2.2.2 = -1) (hI : ∀ p, p < 40 → (S p x ↔ I (lat pp p N))) (hI0 : ¬ I (-1)) : lkS P m l S x ↔ (x = T ∨ (∃ j, j < 800 ∧ (lkV k (P.2.1 cn) (P.2.2.1 cn) (P.2.2.2 cn) l (upd m 120 y) pp N).1 = nI j ∧ x = 3008 + j) ∨ (I (lkV k (P.2.1 cn) (P.2.2.1 cn) (P.2.2.2 cn) l (upd m 120 y) pp N).2.1 ∨ I (lkV k (P.2.1 cn) (P.2.2.1 cn) (P.2.2.2 cn) l (upd m 120 y) pp N).2.2)) := by
  unfold lkS
  rw [ek, hc, hT, tnn (show cn < 2 ^ 31 by omega), tnn (show T < 2 ^ 31 by omega), kc1 k hk, kc2 k hk, kc3 k hk, kc4 k hk, kc5 k hk, lk7, and_iff_right (nI_m1 (show k < 2 ^ 31 by omega))]
  generalize P.2.1 cn = a at *
  generalize P.2.2.1 cn = b at *
  generalize P.2.2.2 cn = c at *
  refine or_congr Iff.rfl ?_
  rcases (show (k = 0 ∨ k = 1 ∨ k = 2 ∨ k = 15 ∨ k = 16 ∨ k = 17 ∨ k = 18 ∨ k = 21 ∨ k = 22) ∨ (k = 3 ∨ k = 11) ∨ (k = 4 ∨ k = 5 ∨ k = 6 ∨ k = 7 ∨ k = 8 ∨ k = 9 ∨ k = 10 ∨ k = 12) ∨ k = 13 ∨ k = 14 ∨ (k = 19 ∨ k = 20) by omega) with hg | hg | hg | hg | hg | hg
  · have eV : lkV k a b c l (upd m 120 y) pp N = (-1, -1, -1) := by
      rcases hg with rfl | rfl | rfl | rfl | rfl | rfl | rfl | rfl | rfl <;> rfl
    rw [eV]
    refine or_congr (lkE_no (by omega)) ⟨?_, ?_⟩
    · rintro (w | w | w | w)
      · exact absurd w.1 (by omega)
      · exact absurd w.1 (by omega)
      · exact absurd w.1 (by omega)
      · exact absurd w.1.1 (by omega)
    · rintro (w | w)
      · exact absurd w hI0
      · exact absurd w hI0
  · have eV : lkV k a b c l (upd m 120 y) pp N = (-1, lat pp (tn b) N, -1) := by
      rcases hg with rfl | rfl <;> rfl
    obtain ⟨-, p, hp, ep⟩ := fine_b hv (by rcases hg with rfl | rfl <;> decide)
    have hb : tn b < 40 := by rw [ep, tnn (by omega)]; omega
    rw [eV]
    refine or_congr (lkE_no (by omega)) ⟨?_, ?_⟩
    · rintro (w | w | w | w)
      · exact Or.inl ((hI _ hb).mp w.2)
      · exact absurd w.1 (by omega)
      · exact absurd w.1 (by omega)
      · exact absurd w.1.1 (by omega)
    · rintro (w | w)
      · exact Or.inl ⟨by omega, (hI _ hb).mpr w⟩
      · exact absurd w hI0
  · have eV : lkV k a b c l (upd m 120 y) pp N = (-1, lat pp (tn b) N, lat pp (tn c) N) := by
      rcases hg with rfl | rfl | rfl | rfl | rfl | rfl | rfl | rfl <;> rfl
    obtain ⟨-, ⟨p, hp, ep⟩, p2, hp2, ep2⟩ := fine_c hv (by rcases hg with rfl | rfl | rfl | rfl | rfl | rfl | rfl | rfl <;> decide)
    have hb : tn b < 40 := by rw [ep, tnn (by omega)]; omega
    have hc' : tn c < 40 := by rw [ep2, tnn (by omega)]; omega
    rw [eV]
    refine or_congr (lkE_no (by omega)) ⟨?_, ?_⟩
    · rintro (w | w | w | w)
      · exact Or.inl ((hI _ hb).mp w.2)
      · exact Or.inr ((hI _ hc').mp w.2)
      · exact absurd w.1 (by omega)
      · exact absurd w.1.1 (by omega)
    · rintro (w | w)
      · exact Or.inl ⟨by omega, (hI _ hb).mpr w⟩
      · exact Or.inr (Or.inl ⟨by omega, (hI _ hc').mpr w⟩)
  · subst hg
    obtain ⟨-, p, hp, ep⟩ := fine_b hv (by decide)
    have hb : tn b < 8 := by rw [ep, tnn (by omega)]; exact hp
    have em : (upd m 120 y) (40 + tn b) = m (40 + tn b) := pk_un (by omega)
    have hin : 0 ≤ m (40 + tn b) ∧ m (40 + tn b) ≤ 31 := by
      have h13 : mdo (upd m 120 y) 13 a b c num en = mcel (upd m 120 y) (tn b) (fun p => mgiv (upd m 120 y) (tn a) ((upd m 120 y) p) ((upd m 120 y) (40 + p))) := rfl
      rw [h13] at hput
      unfold mcel at hput
      rw [em] at hput
      by_cases z1 : (upd m 120 y) (tn b) = 2
      · rw [if_pos z1] at hput
        by_cases z2 : 0 ≤ m (40 + tn b) ∧ m (40 + tn b) ≤ 31
        · exact z2
        · rw [if_neg z2] at hput
          exact (hput rfl).elim
      · rw [if_neg z1] at hput
        exact (hput rfl).elim
    have hin2 : ¬ g_X10_isIn (m (40 + tn b)) 0 31 = 0 := fun z => (in_0.mp z) hin
    obtain ⟨q, hq, q1, q2⟩ := in_nat hin2 (by decide)
    have e31 : (31 : Int32).toInt = 31 := rfl
    have hcell : 8 + tn (m (40 + tn b)) < 40 := by rw [hq, tnn (by omega)]; omega
    have eV : lkV 13 a b c l (upd m 120 y) pp N = (-1, lat pp (tn b) N, lat pp (8 + tn (m (40 + tn b))) N) := by
      show ((-1 : Int32), lat pp (tn b) N, lat pp (8 + tn ((upd m 120 y) (40 + tn b))) N) = _
      rw [em]
    rw [eV]
    refine or_congr (lkE_no (by omega)) ⟨?_, ?_⟩
    · rintro (w | w | w | w)
      · exact Or.inl ((hI _ (by omega)).mp w.2)
      · exact absurd w.1 (by omega)
      · exact absurd w.1 (by omega)
      · exact Or.inr ((hI _ hcell).mp w.2)
    · rintro (w | w)
      · exact Or.inl ⟨by omega, (hI _ (by omega)).mpr w⟩
      · exact Or.inr (Or.inr (Or.inr ⟨⟨rfl, hin2⟩, (hI _ hcell).mpr w⟩))
  · subst hg
    obtain ⟨⟨p2, hp2, ep2⟩, p, hp, ep⟩ := fine_b hv (by decide)
    have hb : tn b < 40 := by rw [ep, tnn (by omega)]; omega
    have ha : tn a < 40 := by rw [ep2, tnn (by omega)]; omega
    have eV : lkV 14 a b c l (upd m 120 y) pp N = (-1, lat pp (tn a) N, lat pp (tn b) N) := rfl
    rw [eV]
    refine or_congr (lkE_no (by omega)) ⟨?_, ?_⟩
    · rintro (w | w | w | w)
      · exact Or.inr ((hI _ hb).mp w.2)
      · exact absurd w.1 (by omega)
      · exact Or.inl ((hI _ ha).mp w.2)
      · exact absurd w.1.1 (by omega)
    · rintro (w | w)
      · exact Or.inr (Or.inr (Or.inl ⟨rfl, (hI _ ha).mpr w⟩))
      · exact Or.inl ⟨by omega, (hI _ hb).mpr w⟩
  · have eV : lkV k a b c l (upd m 120 y) pp N = (nI l, -1, -1) := by
      rcases hg with rfl | rfl <;> rfl
    rw [eV]
    refine or_congr (lkE_y hg (hl hg)) ⟨?_, ?_⟩
    · rintro (w | w | w | w)
      · exact absurd w.1 (by omega)
      · exact absurd w.1 (by omega)
      · exact absurd w.1 (by omega)
      · exact absurd w.1.1 (by omega)
    · rintro (w | w)
      · exact absurd w hI0
      · exact absurd w hI0
theorem lkV_pt {k L N : Nat} {a b c : Int32} {m : Row} {pp : Nat → Int32} (hk : k < 23) : isPt N (lkV k a b c L m pp N).2.1 ∧ isPt N (lkV k a b c L m pp N).2.2 := by
  rcases (show (k = 0 ∨ k = 1 ∨ k = 2 ∨ k = 15 ∨ k = 16 ∨ k = 17 ∨ k = 18 ∨ k = 21 ∨ k = 22 ∨ k = 19 ∨ k = 20) ∨ (k = 3 ∨ k = 11) ∨ (k = 4 ∨ k = 5 ∨ k = 6 ∨ k = 7 ∨ k = 8 ∨ k = 9 ∨ k = 10 ∨ k = 12 ∨ k = 13 ∨ k = 14) by omega) with hg | hg | hg
  · rcases hg with rfl | rfl | rfl | rfl | rfl | rfl | rfl | rfl | rfl | rfl | rfl <;> exact ⟨Or.inl rfl, Or.inl rfl⟩
  · rcases hg with rfl | rfl <;> exact ⟨lat_pt N, Or.inl rfl⟩
  · rcases hg with rfl | rfl | rfl | rfl | rfl | rfl | rfl | rfl | rfl | rfl <;> exact ⟨lat_pt N, lat_pt N⟩
theorem rS_go {P : Prg} {L L' : Lg} {n T : Nat} {r' : Nat → Row × Nat} (h : okG P L n T) (ha : agL L L' n) (hr : ∀ t, t ≤ T → r' t = rp P L n t) (hn : (r' (T + 1)).2 ≤ loS P L' (rp P L n T).1 (rp P L n T).2) : rS P L' r' (T + 1) = stS P L' (rp P L n T).1 (rp P L n T).2 (rS P L (rp P L n) T) := by
  show pkS L' (loS P L' (r' T).1 (r' T).2) ((r' (T + 1)).2 - loS P L' (r' T).1 (r' T).2) (stS P L' (r' T).1 (r' T).2 (rS P L' r' T)) = _
  rw [hr T (Nat.le_refl T), rS_ext h ha (Nat.le_refl T) hr T (Nat.le_refl T), show (r' (T + 1)).2 - loS P L' (rp P L n T).1 (rp P L n T).2 = 0 by omega]
  rfl
theorem PI_le {u : rg_U} {q T N n : Nat} (h : PI u q T N) (hn : n < N) : tn (u.2.1 (q + 1) n) ≤ T := by
  obtain ⟨s, p, hs, -, e, -⟩ := h.2.2.2.2.2 n hn
  have := h.2.2.1
  rw [e, tnn (by omega)]
  exact hs
/-- the sets go along with a step -/
theorem RX_step {uc v um um' : rg_U} {o N N' T : Nat} {e a b z : Int32} {Q : Nat → Prop} (h : RX uc um o 4) (h0 : PI uc (o + 12) T N) (hN8 : N < 3800) (h1 : PI v (o + 12) (T + 1) N') (hT : Tr um 4 = T) (hT' : Tr um' 4 = T + 1) (hPX : PX uc v o T N N' e a b z) (hS : ∀ t, t ≤ T → rS (Pm um' 4) (Lm um' 4) (rpm um' 4) t = rS (Pm um 4) (Lm um 4) (rpm um 4) t) (hgo : rS (Pm um' 4) (Lm um' 4) (rpm um' 4) (T + 1) = if z = -1 then rS (Pm um 4) (Lm um 4) (rpm um 4) T else stP (rS (Pm um 4) (Lm um 4) (rpm um 4) T) Q (tn z)) (ha : isPt N a) (hb : isPt N b) (hQ : ¬ z = -1 → ∀ k, k < 3808 → (Q k ↔ (k = T ∨ (∃ j, j < 800 ∧ e = nI j ∧ k = 3008 + j) ∨ (inS (uc.2.1 (o + 19)) (uc.2.1 (o + 20)) (uc.2.1 (o + 21)) (uc.2.1 (o + 22)) N a k ∨ inS (uc.2.1 (o + 19)) (uc.2.1 (o + 20)) (uc.2.1 (o + 21)) (uc.2.1 (o + 22)) N b k)))) : RX v um' o 4 := by
  have hT3 := h1.2.2.1
  unfold RX at h ⊢
  rw [h0.1, tnn (by omega), hT] at h
  rw [h1.1, tnn (by have := h1.2.1; omega), hT']
  obtain ⟨x1, x2⟩ := hPX
  have hc : ∀ n, n < N → v.2.1 (o + 13) n = uc.2.1 (o + 13) n ∧ v.2.1 (o + 14) n = uc.2.1 (o + 14) n ∧ v.2.1 (o + 19) n = uc.2.1 (o + 19) n ∧ v.2.1 (o + 20) n = uc.2.1 (o + 20) n ∧ v.2.1 (o + 21) n = uc.2.1 (o + 21) n ∧ v.2.1 (o + 22) n = uc.2.1 (o + 22) n := fun n hn => ⟨x1 _ n (by omega) (by omega) hn, x1 _ n (by omega) (by omega) hn, x1 _ n (by omega) (by omega) hn, x1 _ n (by omega) (by omega) hn, x1 _ n (by omega) (by omega) hn, x1 _ n (by omega) (by omega) hn⟩
  rcases x2 with ⟨y1, y2⟩ | ⟨y1, y2, y3, y4, y5, y6, y7⟩
  · rw [y1]
    rw [if_pos y2] at hgo
    exact RXC_stay h (fun n hn => PI_le h0 hn) hc hS (fun p k _ _ => by rw [hgo])
  · obtain ⟨s', p0, -, hp0, -, ep, -⟩ := h1.2.2.2.2.2 N (by omega)
    have ep' : v.2.1 (o + 14) N = nI p0 := ep
    have ez : z = nI p0 := y2.trans ep'
    have hz : ¬ z = -1 := by rw [ez]; exact nI_m1 (by omega)
    rw [if_neg hz, ez, tnn (by omega)] at hgo
    rw [y1]
    refine RXC_add (τ := T + 1) (p0 := p0) h (Or.inr rfl) hN8 hT3 (fun n hn => PI_le h0 hn) hc y7 ep' hp0 (Or.inr ⟨y3, rfl⟩) (by rw [y5]; exact ha) (by rw [y6]; exact hb) (fun t ht => hS t (by omega)) (fun p k hp hne hk => ?_) (fun k hk => ?_)
    · rw [hgo, stP_n hne]
    · rw [hgo, stP_y, hQ hz k hk, y3, y4, y5, y6]
      refine or_congr ⟨fun w => ⟨by omega, by rw [w]⟩, fun w => (nI_inj (by omega) (by omega) w.2).symm⟩ Iff.rfl
/-- a poke on both sides -/
theorem rS_poke {P : Prg} {L L' : Lg} {n T : Nat} (h : okW P L n T) (ha : agL L L' n) (h1 : L'.2.1 n = 2) (h2 : L'.1 n = nI T) : (∀ t, t < T → rS P L' (rp P L' (n + 1)) t = rS P L (rp P L n) t) ∧ rS P L' (rp P L' (n + 1)) T = stP (rS P L (rp P L n) T) (fun k => k = 3008 + n) (tn (L'.2.2.2.1 n)) := by
  obtain ⟨y1, y2⟩ := poke_rp h ha h1 h2
  have hG := h.1
  have hl : (rp P L n T).2 = n := h.2.2.1
  have hlo : ∀ t, t < T → rS P L' (rp P L' (n + 1)) t = rS P L (rp P L n) t := fun t ht => rS_ext (t0 := t) hG ha (by omega) (fun s hs => y1 s (by omega)) t (Nat.le_refl t)
  refine ⟨hlo, ?_⟩
  cases T with
  | zero =>
    show pkS L' 0 (rp P L' (n + 1) 0).2 (fun _ _ => False) = stP (pkS L 0 (rp P L n 0).2 (fun _ _ => False)) (fun k => k = 3008 + n) (tn (L'.2.2.2.1 n))
    rw [show (rp P L' (n + 1) 0).2 = n + 1 by rw [y2], hl]
    show stP (pkS L' 0 n (fun _ _ => False)) (fun k => k = 3008 + (0 + n)) (tn (L'.2.2.2.1 (0 + n))) = _
    rw [Nat.zero_add, pkS_c n (fun i _ h4 => (ha i (by omega)).2.2.2.1)]
  | succ T =>
    obtain ⟨i1, i2, i3⟩ := rp_ok hG T (by omega)
    have hmono := nxt_le hG (show T < T + 1 by omega)
    have es : mstep P (rp P L n T).1 (L'.2.2.1 (rp P L n T).2) (nI (rp P L n T).2) = mstep P (rp P L n T).1 (L.2.2.1 (rp P L n T).2) (nI (rp P L n T).2) := by
      by_cases q : kindOf P ((rp P L n T).1 120) = 19 ∨ kindOf P ((rp P L n T).1 120) = 20
      · rw [(ha _ (hG.2.2.2.2 T (by omega) q)).2.2.1]
      · exact step_num hG.1 i1 (fun z => q (Or.inl z)) (fun z => q (Or.inr z))
    have elo : loS P L' (rp P L n T).1 (rp P L n T).2 = loS P L (rp P L n T).1 (rp P L n T).2 := by
      unfold loS
      rw [es]
    have est : ∀ S, stS P L' (rp P L n T).1 (rp P L n T).2 S = stS P L (rp P L n T).1 (rp P L n T).2 S := fun S => by
      unfold stS
      rw [es]
    have hle : loS P L (rp P L n T).1 (rp P L n T).2 ≤ n := by
      have htk := nxt_l (num := L.2.2.1 (rp P L n T).2) hG.1 i1 (show (rp P L n T).2 < 2 ^ 31 by have := hG.2.2.1; omega)
      unfold loS
      rcases htk with q | ⟨q1, q2⟩
      · rw [if_pos q]
        exact i3
      · rw [if_neg q2]
        exact hG.2.2.2.2 T (by omega) q1
    show pkS L' (loS P L' (rp P L' (n + 1) T).1 (rp P L' (n + 1) T).2) ((rp P L' (n + 1) (T + 1)).2 - loS P L' (rp P L' (n + 1) T).1 (rp P L' (n + 1) T).2) (stS P L' (rp P L' (n + 1) T).1 (rp P L' (n + 1) T).2 (rS P L' (rp P L' (n + 1)) T)) = stP (pkS L (loS P L (rp P L n T).1 (rp P L n T).2) ((rp P L n (T + 1)).2 - loS P L (rp P L n T).1 (rp P L n T).2) (stS P L (rp P L n T).1 (rp P L n T).2 (rS P L (rp P L n) T))) (fun k => k = 3008 + n) (tn (L'.2.2.2.1 n))
    rw [y1 T (by omega), show (rp P L' (n + 1) (T + 1)).2 = n + 1 by rw [y2], hlo T (by omega), elo, est, hl]
    generalize loS P L (rp P L n T).1 (rp P L n T).2 = lo at *
    rw [show n + 1 - lo = (n - lo) + 1 by omega]
    show stP (pkS L' lo (n - lo) _) (fun k => k = 3008 + (lo + (n - lo))) (tn (L'.2.2.2.1 (lo + (n - lo)))) = _
    rw [show lo + (n - lo) = n by omega, pkS_c (n - lo) (fun i h3 h4 => (ha i (by omega)).2.2.2.1)]
theorem PX_c {u v u1 v1 : rg_U} {o T N N' : Nat} {e a b q : Int32} (h : PX u v o T N N' e a b q) (hu : ∀ j, o + 13 ≤ j → j ≤ o + 22 → u1.2.1 j = u.2.1 j) (hv : ∀ j, o + 13 ≤ j → j ≤ o + 22 → v1.2.1 j = v.2.1 j) : PX u1 v1 o T N N' e a b q := by
  refine ⟨fun j n j1 j2 hn => ?_, ?_⟩
  · rw [hu j j1 j2, hv j j1 j2]
    exact h.1 j n j1 j2 hn
  · rw [hv (o + 14) (by omega) (by omega), hv (o + 19) (by omega) (by omega), hv (o + 20) (by omega) (by omega), hv (o + 21) (by omega) (by omega), hv (o + 22) (by omega) (by omega), hv (o + 13) (by omega) (by omega)]
    exact h.2
theorem mstep_none {P : Prg} {m : Row} {num en : Int32} (ek : kindOf P (m 120) = -1) : (mstep P m num en).2.2.2 = -1 := by
  unfold mstep
  dsimp only
  rw [if_pos ek]
  rfl
theorem mstep_do {P : Prg} {m : Row} {num en : Int32} {k cn : Nat} (hk : k < 23) (ek : kindOf P (m 120) = nI k) (hc : m 120 = nI cn) (hcn : cn < 64) : (mstep P m num en).2.2.2 = (mdo (upd m 120 (imin 64 (m 120 + 1))) k (P.2.1 cn) (P.2.2.1 cn) (P.2.2.2 cn) num en).2.2.2 := by
  unfold mstep
  dsimp only
  rw [if_neg (by rw [ek]; exact nI_m1 (by omega)), ek, hc, tnn (show k < 2 ^ 31 by omega), tnn (show cn < 2 ^ 31 by omega)]
theorem lkS_I {P : Prg} {m : Row} {l T N k cn : Nat} {num en z : Int32} {S : SetB} {s e a b pp : Nat → Int32} (hk : k < 23) (ek : kindOf P (m 120) = nI k) (hc : m 120 = nI cn) (hcn : cn < 64) (hv : ¬ g_X10_isFine (nI k) (P.2.1 cn) (P.2.2.1 cn) (P.2.2.2 cn) = 0) (hT : m 133 = nI T) (hT3 : T < 3000) (hl : k = 19 ∨ k = 20 → l < 800) (hz : (mstep P m num en).2.2.2 = z) (hN : N ≤ 3800) (hI : ∀ p x, p < 40 → x < 3808 → (S p x ↔ inS s e a b N (lat pp p N) x)) (hz1 : ¬ z = -1) (x : Nat) (hx : x < 3808) : lkS P m l S x ↔ (x = T ∨ (∃ j, j < 800 ∧ (lkV k (P.2.1 cn) (P.2.2.1 cn) (P.2.2.2 cn) l (upd m 120 (imin 64 (m 120 + 1))) pp N).1 = nI j ∧ x = 3008 + j) ∨ (inS s e a b N (lkV k (P.2.1 cn) (P.2.2.1 cn) (P.2.2.2 cn) l (upd m 120 (imin 64 (m 120 + 1))) pp N).2.1 x ∨ inS s e a b N (lkV k (P.2.1 cn) (P.2.2.1 cn) (P.2.2.2 cn) l (upd m 120 (imin 64 (m 120 + 1))) pp N).2.2 x)) := by
  refine lkS_V (num := num) (en := en) (I := fun y => inS s e a b N y x) hk ek hc hcn hv hT hT3 hl ?_ (fun p hp => hI p x hp hx) ?_
  · rw [← mstep_do hk ek hc hcn, hz]
    exact hz1
  · rintro ⟨n, hn, e1, -⟩
    exact nI_m1 (by omega) e1.symm
/-- the sets go along with a poke -/
theorem RX_poke {uc v um um' : rg_U} {o N T n p : Nat} (h : RX uc um o 4) (h0 : PI uc (o + 12) T N) (hN8 : N < 3800) (h1 : rF v (o + 12) 11 = nI (N + 1)) (hT : Tr um 4 = T) (hT' : Tr um' 4 = T) (hold : ∀ j i, o + 13 ≤ j → j ≤ o + 22 → i < N → v.2.1 j i = uc.2.1 j i) (hp : p < 40) (hnew : v.2.1 (o + 13) N = nI T ∧ v.2.1 (o + 14) N = nI p ∧ v.2.1 (o + 19) N = -1 ∧ v.2.1 (o + 20) N = nI n ∧ v.2.1 (o + 21) N = -1 ∧ v.2.1 (o + 22) N = -1) (hn : n < 800) (hS : ∀ t, t < T → rS (Pm um' 4) (Lm um' 4) (rpm um' 4) t = rS (Pm um 4) (Lm um 4) (rpm um 4) t) (hS' : rS (Pm um' 4) (Lm um' 4) (rpm um' 4) T = stP (rS (Pm um 4) (Lm um 4) (rpm um 4) T) (fun k => k = 3008 + n) p) : RX v um' o 4 := by
  obtain ⟨y1, y2, y3, y4, y5, y6⟩ := hnew
  have hT3 := h0.2.2.1
  unfold RX at h ⊢
  rw [h0.1, tnn (by omega), hT] at h
  rw [h1, tnn (by omega), hT']
  have hc : ∀ n, n < N → v.2.1 (o + 13) n = uc.2.1 (o + 13) n ∧ v.2.1 (o + 14) n = uc.2.1 (o + 14) n ∧ v.2.1 (o + 19) n = uc.2.1 (o + 19) n ∧ v.2.1 (o + 20) n = uc.2.1 (o + 20) n ∧ v.2.1 (o + 21) n = uc.2.1 (o + 21) n ∧ v.2.1 (o + 22) n = uc.2.1 (o + 22) n := fun n hn => ⟨hold _ n (by omega) (by omega) hn, hold _ n (by omega) (by omega) hn, hold _ n (by omega) (by omega) hn, hold _ n (by omega) (by omega) hn, hold _ n (by omega) (by omega) hn, hold _ n (by omega) (by omega) hn⟩
  refine RXC_add (τ := T) (p0 := p) h (Or.inl rfl) hN8 hT3 (fun n hn => PI_le h0 hn) hc y1 y2 hp (Or.inl y3) (Or.inl y5) (Or.inl y6) hS (fun p' k hp' hne hk => ?_) (fun k hk => ?_)
  · rw [hS', stP_n hne]
  · rw [hS', stP_y, y3, y4, y5, y6]
    constructor
    · intro w
      exact Or.inr (Or.inl ⟨n, hn, rfl, w⟩)
    · rintro (⟨-, w⟩ | ⟨j, hj, e1, w⟩ | ⟨m, hm, e1, -⟩ | ⟨m, hm, e1, -⟩)
      · exact absurd w.symm (nI_m1 (by omega))
      · rw [nI_inj (by omega) (by omega) e1]
        exact w
      · exact absurd e1.symm (nI_m1 (by omega))
      · exact absurd e1.symm (nI_m1 (by omega))
theorem RX_back {uc v um um' : rg_U} {o N T t : Nat} (h : RX uc um o 4) (h0 : PI uc (o + 12) T N) (hT : Tr um 4 = T) (ht : t ≤ T) (hN : rF v (o + 12) 11 = nI (cP (uc.2.1 (o + 13)) t N)) (ha : ∀ j, o + 13 ≤ j → j ≤ o + 22 → v.2.1 j = uc.2.1 j) (hT' : Tr um' 4 = t) (hS : ∀ s, s ≤ t → rS (Pm um' 4) (Lm um' 4) (rpm um' 4) s = rS (Pm um 4) (Lm um 4) (rpm um 4) s) : RX v um' o 4 := by
  have hN8 := h0.2.1
  have hle := cP_le (pt := uc.2.1 (o + 13)) (t := t) N
  unfold RX at h ⊢
  rw [h0.1, tnn (by omega), hT] at h
  rw [ha (o + 13) (by omega) (by omega), ha (o + 14) (by omega) (by omega), ha (o + 19) (by omega) (by omega), ha (o + 20) (by omega) (by omega), ha (o + 21) (by omega) (by omega), ha (o + 22) (by omega) (by omega), hN, tnn (by omega), hT']
  exact RXC_c (RXC_cut h h0.2.2.2.1 hN8 ht) (fun _ _ => ⟨rfl, rfl, rfl, rfl, rfl, rfl⟩) hS
theorem RX_mv {uc w um um' : rg_U} {o0 o1 K N : Nat} (h : RX uc um o1 4) (h1 : rF uc (o1 + 12) 11 = nI N) (hN8 : N ≤ 3800) (h2 : rF w (o0 + 12) 11 = nI N) (hc : ∀ z n, 13 ≤ z → z ≤ 22 → n < N → w.2.1 (o0 + z) n = uc.2.1 (o1 + z) n) (hP : Pm um' K = Pm um 4) (hL : Lm um' K = Lm um 4) (hR : ∀ t, rpm um' K t = rpm um 4 t) (hT : Tr um' K = Tr um 4) : RX w um' o0 K := by
  unfold RX at h ⊢
  rw [h1, tnn (by omega)] at h
  rw [h2, tnn (by omega), hT, hP, hL, show rpm um' K = rpm um 4 from funext hR]
  exact RXC_c h (fun n hn => ⟨hc 13 n (by omega) (by omega) hn, hc 14 n (by omega) (by omega) hn, hc 19 n (by omega) (by omega) hn, hc 20 n (by omega) (by omega) hn, hc 21 n (by omega) (by omega) hn, hc 22 n (by omega) (by omega) hn⟩) (fun _ _ => rfl)
theorem rest_new {u : rg_U} {q N p : Nat} {x s n ch old a b c d : Int32} : (restS (addS u q N p x s n ch old) q N a b c d).2.1 (q + 1) N = x ∧ (restS (addS u q N p x s n ch old) q N a b c d).2.1 (q + 2) N = nI p ∧ (restS (addS u q N p x s n ch old) q N a b c d).2.1 (q + 7) N = a ∧ (restS (addS u q N p x s n ch old) q N a b c d).2.1 (q + 8) N = b ∧ (restS (addS u q N p x s n ch old) q N a b c d).2.1 (q + 9) N = c ∧ (restS (addS u q N p x s n ch old) q N a b c d).2.1 (q + 10) N = d := by
  refine ⟨?_, ?_, ?_, ?_, ?_, ?_⟩
  · rw [restS_n (by omega), addS_1, pk_us]
  · rw [restS_n (by omega), addS_2, pk_us]
  · unfold restS
    rw [R_n (by omega), R_n (by omega), R_n (by omega), R_s, pk_us]
  · unfold restS
    rw [R_n (by omega), R_n (by omega), R_s, pk_us]
  · unfold restS
    rw [R_n (by omega), R_s, pk_us]
  · unfold restS
    rw [R_s, pk_us]
theorem rest_old {u : rg_U} {q N p j i : Nat} {x s n ch old a b c d : Int32} (j1 : q + 1 ≤ j) (j2 : j ≤ q + 10) (hi : i < N) : (restS (addS u q N p x s n ch old) q N a b c d).2.1 j i = u.2.1 j i := by
  unfold restS addS
  simp only [R_at, sF_A]
  rw [if_neg (by omega), if_neg (by omega), if_neg (by omega), if_neg (by omega), if_neg (by omega), if_neg (by omega), if_neg (by omega), if_neg (by omega), if_neg (by omega), if_neg (by omega), if_neg (by omega)]
end W_67
section W_68
-- 97zza.rel
/-! the class and the reference: a run on both sides -/
def LG (u : rg_U) (o n : Nat) (L : Lg) : Prop := rF u (o + 6) 5 = nI n ∧ ∀ k, k < n → u.2.1 (o + 7) k = L.1 k ∧ u.2.1 (o + 8) k = L.2.1 k ∧ u.2.1 (o + 9) k = L.2.2.1 k ∧ u.2.1 (o + 10) k = L.2.2.2.1 k ∧ u.2.1 (o + 11) k = L.2.2.2.2 k
def CG (u um : rg_U) (o r : Nat) : Prop := rF u (o + 24) 3 = nI (Cr um r) ∧ ∀ i, i < Cr um r → u.2.1 (o + 25) i = um.2.1 16 (100 * r + i) ∧ u.2.1 (o + 26) i = um.2.1 17 (100 * r + i) ∧ u.2.1 (o + 27) i = um.2.1 18 (100 * r + i)
/-- what is held is held still -/
def HB (um : rg_U) (r : Nat) : Prop := ∀ k, k ≤ 3000 → ¬ Hm um r k = 0 → k = 0 ∨ (k ≤ Tr um r / Ur um r ∧ Tr um r / Ur um r < gw k (Dr um r))
def RR (pB : Prop) (u um : rg_U) (o r : Nat) : Prop := PG u o (Pm um r) ∧ LG u o (nr um r) (Lm um r) ∧ CG u um o r ∧ HI u (o + 28) (Hm um r) (Ur um r) (Dr um r) ∧ (HB um r ∧ RX u um o r) ∧ (rF u (o + 28) 2 = um.2.1 26 r ∧ rF u o 10 = (rpm um r (Tr um r)).1 132 ∧ (pB → rF u o 12 = um.2.1 25 r) ∧ rF u o 13 = um.2.1 27 r) ∧ ∃ N, RunS u o (Tr um r) N (fun t => (rpm um r t).1) (fun t => (rpm um r t).2)
def OutR (u um : rg_U) (W : Nat) : Prop := ∃ A, okO9 u A W ∧ (∀ i, i < W → wt9 u A i = um.2.1 29 i) ∧ rF u 6 3 = um.1 34
section XT
variable {pB : Prop} {F o r T N : Nat} {R R' : Nat → Row} {l l' : Nat → Nat} {u u' um um' : rg_U}
theorem RunS_c (h : RunS u o T N R l) (hR : ∀ t, t ≤ T → R' t = R t) (hl : ∀ t, t ≤ T → l' t = l t) : RunS u o T N R' l' := by
  obtain ⟨h1, h2, h3, h4, h5⟩ := h
  refine ⟨h1, h2, fun t ht => SI_c (h3 t ht) (fun _ _ => rfl) rfl rfl rfl (fun s hs => hR s (by omega)), h4, fun t ht => ?_⟩
  rw [hR t ht, hl t ht]
  exact h5 t ht
theorem RunS_f (h : RunS u o T N R l) (ha : ∀ j, o < j → j ≤ o + 33 → u'.2.1 j = u.2.1 j) (hf : ∀ k, 100 * o ≤ k → k < 100 * (o + 34) → u'.1 k = u.1 k) : RunS u' o T N R l := by
  obtain ⟨h1, h2, h3, h4, h5⟩ := h
  refine ⟨(hf _ (by omega) (by omega)).trans h1, h2, fun t ht => SI_c (h3 t ht) (fun s _ => by rw [ha (o + 30) (by omega) (by omega)]) (by rw [ha (o + 31) (by omega) (by omega)]) (by rw [ha (o + 32) (by omega) (by omega)]) (by rw [ha (o + 33) (by omega) (by omega)]) (fun _ _ => rfl), PI_c h4 (hf _ (by omega) (by omega)) (fun j j1 j2 => ha j (by omega) (by omega)) (ha _ (by omega) (by omega)), fun t ht => ?_⟩
  rw [ha (o + 13) (by omega) (by omega)]
  exact ⟨PRow_c (h5 t ht).1 (fun j j1 j2 => ha j (by omega) (by omega)), (h5 t ht).2⟩
/-- the run asks for what is its own alone -/
theorem RR_f (h : RR pB u um o r) (ha : ∀ j, o < j → j ≤ o + 33 → u'.2.1 j = u.2.1 j) (hf : ∀ k, 100 * o ≤ k → k < 100 * (o + 34) → u'.1 k = u.1 k) : RR pB u' um o r := by
  obtain ⟨h1, h2, h3, h4, h5, ⟨h6, h7, h8, h9⟩, N, h10⟩ := h
  refine ⟨fun k hk => ?_, ⟨(hf _ (by omega) (by omega)).trans h2.1, fun k hk => ?_⟩, ⟨(hf _ (by omega) (by omega)).trans h3.1, fun k hk => ?_⟩, HI_c h4 (hf _ (by omega) (by omega)) (hf _ (by omega) (by omega)) (hf _ (by omega) (by omega)) (ha _ (by omega) (by omega)), ⟨h5.1, RX_f h5.2 (fun j j1 j2 => ha j (by omega) (by omega)) (hf _ (by omega) (by omega))⟩, ⟨(hf _ (by omega) (by omega)).trans h6, (hf _ (by omega) (by omega)).trans h7, fun hb => (hf _ (by omega) (by omega)).trans (h8 hb), (hf _ (by omega) (by omega)).trans h9⟩, N, RunS_f h10 ha hf⟩
  · rw [ha (o + 2) (by omega) (by omega), ha (o + 3) (by omega) (by omega), ha (o + 4) (by omega) (by omega), ha (o + 5) (by omega) (by omega)]; exact h1 k hk
  · rw [ha (o + 7) (by omega) (by omega), ha (o + 8) (by omega) (by omega), ha (o + 9) (by omega) (by omega), ha (o + 10) (by omega) (by omega), ha (o + 11) (by omega) (by omega)]; exact h2.2 k hk
  · rw [ha (o + 25) (by omega) (by omega), ha (o + 26) (by omega) (by omega), ha (o + 27) (by omega) (by omega)]; exact h3.2 k hk
/-- the reference's run is the same -/
theorem RR_g (h : RR pB u um o r) (hC : Cr um r ≤ 100) (hg : agR um um' r) : RR pB u um' o r := by
  obtain ⟨h1, h2, h3, h4, h5, ⟨h6, h7, h8, h9⟩, N, h10⟩ := h
  obtain ⟨e1, e2, e3, e4, e5⟩ := sc_g hg
  have eR : ∀ t, rpm um' r t = rpm um r t := fun t => rpm_g hg
  have hs := hg.2.2.1
  unfold RR CG HB
  rw [Pm_g hg, Lm_g hg, Hm_g hg, e1, e2, e3, e4, e5, eR, hs 25 (Or.inr (Or.inr (by decide))), hs 26 (Or.inr (Or.inr (by decide))), hs 27 (Or.inr (Or.inr (by decide)))]
  refine ⟨h1, h2, ⟨h3.1, fun i hi => ?_⟩, h4, ⟨h5.1, RX_m h5.2 (Pm_g hg) (Lm_g hg) eR e2⟩, ⟨h6, h7, h8, h9⟩, N, RunS_c h10 (fun t _ => by rw [eR]) (fun t _ => by rw [eR])⟩
  rw [hg.2.2.2.1 16 (by decide) (by decide) i (by omega), hg.2.2.2.1 17 (by decide) (by decide) i (by omega), hg.2.2.2.1 18 (by decide) (by decide) i (by omega)]
  exact h3.2 i hi
/-- only what goes along and lies aside is other on the reference's side -/
theorem agR_e (h : coreEq um um') : agR um um' r := agR_A (fun j h1 h2 => h.1 j (by omega))
theorem RR_e (h : RR pB u um o r) (hC : Cr um r ≤ 100) (he : coreEq um um') : RR pB u um' o r := RR_g h hC (agR_e he)
/-- what is counted as replayed, on both sides -/
theorem RR_cS {x : Int32} (h : RR pB u um o r) (ho : 100 ≤ o) : RR pB (sF (sF u o 12 (rF u o 12 + x)) 0 13 (rF u 0 13 + x)) (cS um r x) o r := by
  have hA : ∀ j, j ≠ 25 → (cS um r x).2.1 j = um.2.1 j := fun j hj => by
    show va_up um.2.1 25 _ j = _
    exact pm_up_n hj
  have e25 : (cS um r x).2.1 25 r = um.2.1 25 r + x := by
    show va_up um.2.1 25 (upd (um.2.1 25) r (um.2.1 25 r + x)) 25 r = _
    rw [pm_up_s, pk_us]
  have hP : Pm (cS um r x) r = Pm um r := by
    unfold Pm
    rw [hA 6 (by decide), hA 7 (by decide), hA 8 (by decide), hA 9 (by decide)]
  have hL : Lm (cS um r x) r = Lm um r := by
    unfold Lm
    rw [hA 10 (by decide), hA 11 (by decide), hA 12 (by decide), hA 13 (by decide), hA 14 (by decide)]
  have hH : Hm (cS um r x) r = Hm um r := by
    unfold Hm
    rw [hA 20 (by decide)]
  have h0 : RR pB (sF (sF u o 12 (rF u o 12 + x)) 0 13 (rF u 0 13 + x)) (cS um r x) o r ↔ RR pB (sF (sF u o 12 (rF u o 12 + x)) 0 13 (rF u 0 13 + x)) (cS um r x) o r := Iff.rfl
  obtain ⟨h1, h2, h3, h4, h5, ⟨h6, h7, h8, h9⟩, N, h10⟩ := h
  have hf : ∀ k, k ≠ 100 * o + 12 → k ≠ 13 → (sF (sF u o 12 (rF u o 12 + x)) 0 13 (rF u 0 13 + x)).1 k = u.1 k := fun k k1 k2 => by rw [sF_n (by omega), sF_n k1]
  unfold RR CG HB nr Cr Ur Dr Tr
  rw [hP, hL, hH, hA 15 (by decide), hA 19 (by decide), hA 23 (by decide), hA 24 (by decide), hA 21 (by decide), hA 26 (by decide), hA 27 (by decide), hA 16 (by decide), hA 17 (by decide), hA 18 (by decide), e25, rpm_cS]
  refine ⟨h1, ⟨(hf _ (by omega) (by omega)).trans h2.1, h2.2⟩, ⟨(hf _ (by omega) (by omega)).trans h3.1, h3.2⟩, HI_c h4 (hf _ (by omega) (by omega)) (hf _ (by omega) (by omega)) (hf _ (by omega) (by omega)) rfl, ⟨h5.1, RX_m (RX_f h5.2 (fun _ _ _ => rfl) (hf _ (by omega) (by omega))) hP hL (fun t => rpm_cS) (by unfold Tr; rw [hA 21 (by decide)])⟩, ⟨(hf _ (by omega) (by omega)).trans h6, (hf _ (by omega) (by omega)).trans h7, ?_, (hf _ (by omega) (by omega)).trans h9⟩, N, ?_⟩
  · intro hb
    show (sF (sF u o 12 (rF u o 12 + x)) 0 13 (rF u 0 13 + x)).1 (100 * o + 12) = _
    rw [sF_n (by omega)]
    show rF (sF u o 12 (rF u o 12 + x)) o 12 = _
    rw [sF_y, h8 hb]
  · obtain ⟨a1, a2, a3, a4, a5⟩ := h10
    exact RunS_c (R := fun t => (rpm um r t).1) (l := fun t => (rpm um r t).2) ⟨(hf _ (by omega) (by omega)).trans a1, a2, a3, PI_c a4 (hf _ (by omega) (by omega)) (fun _ _ _ => rfl) rfl, a5⟩ (fun t _ => by rw [rpm_cS]) (fun t _ => by rw [rpm_cS])
end XT
end W_68
section W_69
-- 97zzb.step
/-! the class and the reference: a step on both sides -/
section XS
variable {F o T N : Nat} {R : Nat → Row} {l l' : Nat → Nat} {u uc um : rg_U}
theorem RunS_end {m' : Row} (h : MD u o T N R l m') (hl : ∀ t, t ≤ T → l' t = l t) (hN : N ≤ T + 1 + l' (T + 1)) : RunS (sF u o 9 (nI (T + 1))) o (T + 1) N (Rx R T m') l' := by
  obtain ⟨h1, h2, h3, h4, h5, h6⟩ := h
  refine ⟨sF_y, by omega, h3, PI_c h4 (sF_n (by omega)) (fun _ _ _ => rfl) rfl, fun t ht => ?_⟩
  rw [sF_A]
  rcases Nat.lt_or_ge T t with y | y
  · have et : t = T + 1 := by omega
    subst et
    rw [Rx_gt y, show o + 13 = o + 12 + 1 from rfl, PI_all h4]
    exact ⟨PRow_c h5 (fun _ _ _ => rfl), hN⟩
  · rw [Rx_le y, hl t y]
    exact ⟨PRow_c (h6 t y).1 (fun _ _ _ => rfl), (h6 t y).2⟩
/-- what a step leaves of all else: arrays, fields -/
def FX (u v : rg_U) (o : Nat) : Prop := v.2.2 = u.2.2 ∧ (∀ j, (j < o + 6 ∨ o + 33 < j) → v.2.1 j = u.2.1 j) ∧ ∀ k, (k < 601 ∨ (603 < k ∧ k < 100 * o) ∨ 100 * (o + 34) ≤ k) → v.1 k = u.1 k
/-- the order of a step, with all that it wants of the run -/
theorem c_perform {P : Prg} {cn d C L A0 W : Nat} {num en : Int32} (h : RunS uc o T N R l) (hT : T < 3000) (hN : N < 3800) (ho : 116 ≤ o) (hP : PG uc o P) (hok : okP P) (hc : R T 120 = nI cn) (hcn : cn ≤ 64) (h10 : rF uc o 10 = R T 132) (hd : R T 121 = nI d) (d8 : d ≤ 8) (hC : rF uc (o + 24) 3 = nI C) (hC1 : C ≤ 100) (hL : rF uc (o + 6) 5 = nI L) (hL8 : kindOf P (nI cn) = 19 ∨ kindOf P (nI cn) = 20 → L < 800) (hO : okO9 uc A0 W) (hW : kindOf P (nI cn) = 19 → 0 < W) (hn19 : kindOf P (nI cn) = 19 → num = wt9 uc A0 0) (hn20 : kindOf P (nI cn) = 20 → num = drawN (rF uc 6 3) (P.2.2.1 cn)) (hF : 10000 < F) : ∃ u0 u' v k z, u0 = prepS uc o T (imin 64 (R T 120 + 1)) (R T 130) (R T 131) (uc.2.1 (o + 33) T) ∧ g_X8_perform F o (nI cn) u0 = some (z.2.1, v) ∧ mstep P (R T) num en = (upd z.1 133 (z.1 133 + 1), z.2) ∧ PO u' v o T N R l (upd (R T) 120 (imin 64 (R T 120 + 1))) z (if kindOf P (nI cn) = -1 then (-1, -1, -1) else lkV k (P.2.1 cn) (P.2.2.1 cn) (P.2.2.2 cn) L (upd (R T) 120 (imin 64 (R T 120 + 1))) (u0.2.1 (o + 14)) N) ∧ ((kindOf P (nI cn) = -1 ∧ u' = u0) ∨ (kindOf P (nI cn) = nI k ∧ k < 23 ∧ cn < 64 ∧ EX k z.2.1 u0 u' o T C L A0 W d (P.2.1 cn) (P.2.2.1 cn) ∧ (k = 17 → z.2.1 = 0 → z.1 120 = P.2.1 cn))) := by
  have hM := MD_start (x := imin 64 (R T 120 + 1)) h hT
  generalize hu0 : prepS uc o T (imin 64 (R T 120 + 1)) (R T 130) (R T 131) (uc.2.1 (o + 33) T) = u0 at *
  have f0 : ∀ i, i ≠ 100 * o + 11 → u0.1 i = uc.1 i := fun i hi => by rw [← hu0]; exact prepS_f hi
  have g10 : rF u0 o 10 = (upd (R T) 120 (imin 64 (R T 120 + 1))) 132 := by
    rw [pk_un (by decide)]
    exact (f0 _ (by omega)).trans h10
  have g11 : rF u0 o 11 = -1 := by
    rw [← hu0]
    show (sF uc o 11 (-1)).1 (100 * o + 11) = -1
    exact sF_y
  have a0 : ∀ j, j < o + 30 → u0.2.1 j = uc.2.1 j := fun j hj => by rw [← hu0]; exact prepS_n (by omega)
  have hP0 : PG u0 o P := fun k hk => by
    rw [a0 (o + 2) (by omega), a0 (o + 3) (by omega), a0 (o + 4) (by omega), a0 (o + 5) (by omega)]
    exact hP k hk
  have trap : kindOf P (nI cn) = -1 → g_X8_perform F o (nI cn) u0 = some (5, u0) → ∃ u0' u' v k z, u0' = u0 ∧ g_X8_perform F o (nI cn) u0' = some (z.2.1, v) ∧ mstep P (R T) num en = (upd z.1 133 (z.1 133 + 1), z.2) ∧ PO u' v o T N R l (upd (R T) 120 (imin 64 (R T 120 + 1))) z (if kindOf P (nI cn) = -1 then (-1, -1, -1) else lkV k (P.2.1 cn) (P.2.2.1 cn) (P.2.2.2 cn) L (upd (R T) 120 (imin 64 (R T 120 + 1))) (u0'.2.1 (o + 14)) N) ∧ ((kindOf P (nI cn) = -1 ∧ u' = u0') ∨ (kindOf P (nI cn) = nI k ∧ k < 23 ∧ cn < 64 ∧ EX k z.2.1 u0' u' o T C L A0 W d (P.2.1 cn) (P.2.2.1 cn) ∧ (k = 17 → z.2.1 = 0 → z.1 120 = P.2.1 cn))) := by
    intro hk he
    refine ⟨u0, u0, u0, 0, mtrp (upd (R T) 120 (imin 64 (R T 120 + 1))) 5, rfl, he, ?_, po_trap hM g11 (by decide), Or.inl ⟨hk, rfl⟩⟩
    unfold mstep
    rw [hc, if_pos hk]
  by_cases q : cn < 64
  · have ekd : kindOf P (nI cn) = P.1 cn := by
      unfold kindOf
      rw [if_pos (show nI cn < 64 from nI_lt (a := cn) (b := 64) q (by decide)), tnn (by omega)]
    by_cases q1 : P.1 cn = -1
    · refine trap (ekd.trans q1) ?_
      rw [x8_perf hP0 q, q1]
      unfold perfK
      rw [if_pos rfl]
    · have hfine := hok cn q
      obtain ⟨k, hk, ek⟩ := fine_k hfine q1
      rw [ek] at hfine
      have ekk : kindOf P (nI cn) = nI k := ekd.trans ek
      have k19 : k = 19 → kindOf P (nI cn) = 19 := fun z => by rw [ekk, z]; rfl
      have k20 : k = 20 → kindOf P (nI cn) = 20 := fun z => by rw [ekk, z]; rfl
      have hO0 : okO9 u0 A0 W := ⟨(f0 _ (by omega)).trans hO.1, (f0 _ (by omega)).trans hO.2.1, hO.2.2⟩
      have w0 : wt9 u0 A0 0 = wt9 uc A0 0 := by
        unfold wt9
        rw [a0 7 (by omega)]
      have x0 : rF u0 6 3 = rF uc 6 3 := f0 _ (by omega)
      have c120 : imin 64 (R T 120 + 1) = R T 120 + 1 := by
        rw [hc, nI_1]
        unfold imin
        by_cases z : cn = 63
        · subst z; decide
        · rw [if_pos (show nI (cn + 1) < 64 from nI_lt (a := cn + 1) (b := 64) (by omega) (by decide))]
      obtain ⟨v, u', e1, e2, e3⟩ := c_order (F := F) (k := k) (a := P.2.1 cn) (b := P.2.2.1 cn) (c := P.2.2.2 cn) (num := num) (en := en) (C := C) (L := L) (A0 := A0) (W := W) (d := d) hk hM hN g10 g11 hfine ho hd (by rw [pk_un (by decide)]; exact hd) d8 (fun i hi => by rw [pk_un (by omega)]) (by rw [pk_us, c120]) (by rw [pk_un (by decide)]) ((f0 _ (by omega)).trans hC) hC1 ((f0 _ (by omega)).trans hL) (fun z => hL8 (by rcases z with z | z; exact Or.inl (k19 z); exact Or.inr (k20 z))) hO0 (fun z => hW (k19 z)) (fun z => by rw [w0]; exact hn19 (k19 z)) (fun z => by rw [x0]; exact hn20 (k20 z)) hF
      refine ⟨u0, u', v, k, _, rfl, by rw [x8_perf hP0 q, ek]; exact e1, ?_, by rw [if_neg (by rw [ekk]; exact nI_m1 (by omega))]; exact e3, Or.inr ⟨ekk, hk, q, e2, ?_⟩⟩
      · unfold mstep
        rw [hc, if_neg (by rw [ekk]; exact nI_m1 (by omega)), ekk, tnn (by omega), tnn (by omega)]
      · intro z17 ztr
        subst z17
        have e17 : mdo (upd (R T) 120 (imin 64 (R T 120 + 1))) 17 (P.2.1 cn) (P.2.2.1 cn) (P.2.2.2 cn) num en = (if (upd (R T) 120 (imin 64 (R T 120 + 1))) 121 = 8 then mtrp (upd (R T) 120 (imin 64 (R T 120 + 1))) 4 else (upd (upd (upd (upd (R T) 120 (imin 64 (R T 120 + 1))) (122 + tn ((upd (R T) 120 (imin 64 (R T 120 + 1))) 121)) ((upd (R T) 120 (imin 64 (R T 120 + 1))) 120)) 121 ((upd (R T) 120 (imin 64 (R T 120 + 1))) 121 + 1)) 120 (P.2.1 cn), 0, -1, -1)) := rfl
        rw [e17] at ztr ⊢
        by_cases q8 : (upd (R T) 120 (imin 64 (R T 120 + 1))) 121 = 8
        · rw [if_pos q8] at ztr
          exact absurd (show (4 : Int32) = 0 from ztr) (by decide)
        · rw [if_neg q8]
          dsimp only
          rw [pk_us]
  · refine trap ?_ (x8_out q hcn)
    unfold kindOf
    rw [if_neg]
    rw [show cn = 64 by omega]
    decide
end XS
end W_69
section W_70
-- 97zzc.step
/-! the class and the reference: a step on both sides (what stays, what is logged) -/
section XU
variable {F o T N C L A0 W d k : Nat} {R : Nat → Row} {l l' : Nat → Nat} {u u' uc um um' v : rg_U} {tr a b : Int32}
theorem EX_a {j : Nat} (h : EX k tr u u' o T C L A0 W d a b) (hj : j < o + 7 ∨ (o + 11 < j ∧ j < o + 25) ∨ o + 27 < j) : u'.2.1 j = u.2.1 j := by
  rcases h with ⟨-, -, -, rfl⟩ | ⟨-, rfl⟩ | ⟨-, rfl⟩ | ⟨-, -, -, rfl⟩
  · exact caddS_n (by omega)
  · rw [laddS_n (by omega)]; rfl
  · rw [laddS_n (by omega)]; rfl
  · rfl
theorem EX_f {i : Nat} (h : EX k tr u u' o T C L A0 W d a b) (h1 : i < 601 ∨ 603 < i) (h2 : i ≠ 100 * (o + 6) + 5) (h3 : i ≠ 100 * (o + 24) + 3) : u'.1 i = u.1 i := by
  rcases h with ⟨-, -, -, rfl⟩ | ⟨-, rfl⟩ | ⟨-, rfl⟩ | ⟨-, -, -, rfl⟩
  · exact caddS_f h3
  · rw [laddS_f h2, sF_n (by omega), sF_n (by omega)]
  · rw [laddS_f h2, sF_n (by omega)]
  · rfl
theorem EX_g (h : EX k tr u u' o T C L A0 W d a b) : u'.2.2 = u.2.2 := by
  rcases h with ⟨-, -, -, rfl⟩ | ⟨-, rfl⟩ | ⟨-, rfl⟩ | ⟨-, -, -, rfl⟩ <;> rfl
theorem laddS_7 {q : Nat} {t g p s n : Int32} : (laddS u q L t g p s n).2.1 (q + 1) = upd (u.2.1 (q + 1)) L t ∧ (laddS u q L t g p s n).2.1 (q + 2) = upd (u.2.1 (q + 2)) L g ∧ (laddS u q L t g p s n).2.1 (q + 3) = upd (u.2.1 (q + 3)) L n ∧ (laddS u q L t g p s n).2.1 (q + 4) = upd (u.2.1 (q + 4)) L p ∧ (laddS u q L t g p s n).2.1 (q + 5) = upd (u.2.1 (q + 5)) L s := by
  unfold laddS
  rw [sF_A]
  refine ⟨?_, ?_, ?_, ?_, ?_⟩
  · rw [R_n (by omega), R_n (by omega), R_n (by omega), R_n (by omega), R_s]
  · rw [R_n (by omega), R_n (by omega), R_n (by omega), R_s, R_n (by omega)]
  · rw [R_s, R_n (by omega), R_n (by omega), R_n (by omega), R_n (by omega)]
  · rw [R_n (by omega), R_n (by omega), R_s, R_n (by omega), R_n (by omega)]
  · rw [R_n (by omega), R_s, R_n (by omega), R_n (by omega), R_n (by omega)]
/-- an entry more in the log -/
theorem LG_add {L0 L1 : Lg} {t g p s n : Int32} (h : LG u o L L0) (ha : agL L0 L1 L) (he : entryIs L1 L t g n p s) : LG (laddS u (o + 6) L t g p s n) o (L + 1) L1 := by
  obtain ⟨e1, e2, e3, e4, e5⟩ := laddS_7 (u := u) (L := L) (q := o + 6) (t := t) (g := g) (p := p) (s := s) (n := n)
  refine ⟨laddS_N, fun i hi => ?_⟩
  rw [show o + 7 = o + 6 + 1 from rfl, show o + 8 = o + 6 + 2 from rfl, show o + 9 = o + 6 + 3 from rfl, show o + 10 = o + 6 + 4 from rfl, show o + 11 = o + 6 + 5 from rfl, e1, e2, e3, e4, e5]
  by_cases q : i = L
  · subst q
    rw [pk_us, pk_us, pk_us, pk_us, pk_us, he.1, he.2.1, he.2.2.1, he.2.2.2.1, he.2.2.2.2]
    exact ⟨rfl, rfl, rfl, rfl, rfl⟩
  · rw [pk_un q, pk_un q, pk_un q, pk_un q, pk_un q]
    obtain ⟨a1, a2, a3, a4, a5⟩ := ha i (by omega)
    rw [a1, a2, a3, a4, a5]
    exact h.2 i (by omega)
theorem LG_f {n : Nat} {L0 : Lg} (h : LG u o n L0) (hf : u'.1 (100 * (o + 6) + 5) = u.1 (100 * (o + 6) + 5)) (ha : ∀ j, o + 7 ≤ j → j ≤ o + 11 → u'.2.1 j = u.2.1 j) : LG u' o n L0 := by
  refine ⟨hf.trans h.1, fun i hi => ?_⟩
  rw [ha (o + 7) (by omega) (by omega), ha (o + 8) (by omega) (by omega), ha (o + 9) (by omega) (by omega), ha (o + 10) (by omega) (by omega), ha (o + 11) (by omega) (by omega)]
  exact h.2 i hi
theorem stM_0 (h : stM um W = 0) : um.2.1 28 132 = 0 ∧ (kn um = 19 → 0 < W) ∧ (kn um = 19 ∨ kn um = 20 → ¬ nr um 4 = 800) := by
  unfold stM at h
  by_cases q : um.2.1 28 132 = 0
  · rw [if_pos q] at h
    refine ⟨q, fun z => ?_, fun z y => ?_⟩
    · rcases Nat.eq_zero_or_pos W with w | w
      · rw [if_pos ⟨z, w⟩] at h
        exact absurd h (by decide)
      · exact w
    · by_cases q1 : kindOf (Pm um 4) (um.2.1 28 120) = 19 ∧ W = 0
      · rw [if_pos q1] at h
        exact absurd h (by decide)
      · rw [if_neg q1, if_pos ⟨z, y⟩] at h
        exact absurd h (by decide)
  · rw [if_neg q] at h
    exact absurd h q
/-- the log, behind a step -/
theorem LG_step {P : Prg} {cn W' n' : Nat} (hO : okO9 uc A0 W) (hout : ∀ i, i < W → wt9 uc A0 i = um.2.1 29 i) (hx : rF uc 6 3 = um.1 34) (hL : LG uc o (nr um 4) (Lm um 4)) (hT4 : Tr um 4 = T) (htk : tkD um v W W' n') (hag : agL (Lm um 4) (Lm v 4) (nr um 4)) (ekn : kn um = nI k) (hk : k < 23) (hu0f : ∀ i, i ≠ 100 * o + 11 → u.1 i = uc.1 i) (hu0a : ∀ j, j < o + 30 → u.2.1 j = uc.2.1 j) (ho : 116 ≤ o) (hcn : um.2.1 28 120 = nI cn) (hcn64 : cn ≤ 64) (hP : Pm um 4 = P) (hE : EX k tr u u' o T C (nr um 4) A0 W d a (P.2.2.1 cn)) : LG u' o n' (Lm v 4) ∧ ∃ A, okO9 u' A W' ∧ (∀ i, i < W' → wt9 u' A i = v.2.1 29 i) ∧ rF u' 6 3 = v.1 34 := by
  have hL0 : LG u o (nr um 4) (Lm um 4) := LG_f hL (hu0f _ (by omega)) (fun j j1 j2 => hu0a j (by omega))
  have w0 : ∀ A i, wt9 u A i = wt9 uc A i := fun A i => by
    unfold wt9
    rw [hu0a 7 (by omega)]
  rcases hE with ⟨rfl, -, -, e⟩ | ⟨rfl, e⟩ | ⟨rfl, e⟩ | ⟨-, n19, n20, e⟩
  · rcases htk with ⟨z, -⟩ | ⟨z, -⟩ | ⟨-, -, z1, z2, z3⟩
    · rw [ekn] at z; exact absurd z (by decide)
    · rw [ekn] at z; exact absurd z (by decide)
    · subst z1 z2 z3 e
      refine ⟨LG_f hL0 (caddS_f (by omega)) (fun j j1 j2 => caddS_n (by omega)), A0, ⟨(caddS_f (by omega)).trans ((hu0f _ (by omega)).trans hO.1), (caddS_f (by omega)).trans ((hu0f _ (by omega)).trans hO.2.1), hO.2.2⟩, fun i hi => ?_, (caddS_f (by omega)).trans ((hu0f _ (by omega)).trans hx)⟩
      unfold wt9
      rw [caddS_n (by omega)]
      exact (w0 A0 i).trans (hout i hi)
  · rcases htk with ⟨-, z2, z3, z4, z5, z6, z7, z8⟩ | ⟨z, -⟩ | ⟨z, -⟩
    · have e0 : wt9 u A0 0 = um.2.1 29 0 := (w0 A0 0).trans (hout 0 z2)
      rw [z5]
      rw [hT4, ← e0] at z6
      subst e
      have hL1 : LG (sF (sF u 6 1 (nI ((A0 + 1) % 900))) 6 2 (nI (W - 1))) o (nr um 4) (Lm um 4) := LG_f hL0 (by rw [sF_n (by omega), sF_n (by omega)]) (fun _ _ _ => rfl)
      refine ⟨LG_add hL1 hag z6, (A0 + 1) % 900, ⟨?_, ?_, Nat.mod_lt _ (by omega), by have := hO.2.2.2; omega⟩, fun i hi => ?_, ?_⟩
      · show (laddS (sF (sF u 6 1 _) 6 2 _) (o + 6) (nr um 4) _ _ _ _ _).1 (100 * 6 + 1) = _
        rw [laddS_f (by omega), sF_n (by omega)]
        exact sF_y
      · show (laddS (sF (sF u 6 1 _) 6 2 _) (o + 6) (nr um 4) _ _ _ _ _).1 (100 * 6 + 2) = _
        rw [laddS_f (by omega), z4]
        exact sF_y
      · rw [z8 i hi]
        unfold wt9
        rw [laddS_n (by omega)]
        show u.2.1 7 (((A0 + 1) % 900 + i) % 900) = _
        rw [show ((A0 + 1) % 900 + i) % 900 = (A0 + (i + 1)) % 900 by omega]
        exact (w0 A0 (i + 1)).trans (hout (i + 1) (by omega))
      · show (laddS (sF (sF u 6 1 _) 6 2 _) (o + 6) (nr um 4) _ _ _ _ _).1 (100 * 6 + 3) = _
        rw [laddS_f (by omega), sF_n (by omega), sF_n (by omega), z7, ← hx]
        exact hu0f _ (by omega)
    · rw [ekn] at z; exact absurd z (by decide)
    · rw [ekn] at z; exact absurd rfl z
  · rcases htk with ⟨z, -⟩ | ⟨-, z3, z4, z5, z6, z7, z8⟩ | ⟨-, z, -⟩
    · rw [ekn] at z; exact absurd z (by decide)
    · have e0 : rF u 6 3 = um.1 34 := (hu0f _ (by omega)).trans hx
      rw [z5]
      rw [hT4, hP, hcn, tnn (by omega), ← e0] at z6
      subst e
      have hL1 : LG (sF u 6 3 (drawX (rF u 6 3))) o (nr um 4) (Lm um 4) := LG_f hL0 (by rw [sF_n (by omega)]) (fun _ _ _ => rfl)
      refine ⟨LG_add hL1 hag z6, A0, ⟨?_, ?_, hO.2.2.1, by rw [z4]; exact hO.2.2.2⟩, fun i hi => ?_, ?_⟩
      · show (laddS (sF u 6 3 _) (o + 6) (nr um 4) _ _ _ _ _).1 (100 * 6 + 1) = _
        rw [laddS_f (by omega), sF_n (by omega)]
        exact (hu0f _ (by omega)).trans hO.1
      · show (laddS (sF u 6 3 _) (o + 6) (nr um 4) _ _ _ _ _).1 (100 * 6 + 2) = _
        rw [laddS_f (by omega), sF_n (by omega), z4]
        exact (hu0f _ (by omega)).trans hO.2.1
      · rw [z8]
        unfold wt9
        rw [laddS_n (by omega)]
        exact (w0 A0 i).trans (hout i (by omega))
      · show (laddS (sF u 6 3 _) (o + 6) (nr um 4) _ _ _ _ _).1 (100 * 6 + 3) = _
        rw [laddS_f (by omega), z7, ← e0]
        exact sF_y
    · rw [ekn] at z; exact absurd rfl z
  · rcases htk with ⟨z, -⟩ | ⟨z, -⟩ | ⟨-, -, z1, z2, z3⟩
    · rw [ekn] at z; exact absurd (nI_inj (b := 19) (by omega) (by omega) z) n19
    · rw [ekn] at z; exact absurd (nI_inj (b := 20) (by omega) (by omega) z) n20
    · subst z1 z2 z3 e
      exact ⟨hL0, A0, ⟨(hu0f _ (by omega)).trans hO.1, (hu0f _ (by omega)).trans hO.2.1, hO.2.2⟩, fun i hi => (w0 A0 i).trans (hout i hi), (hu0f _ (by omega)).trans hx⟩
end XU
end W_70
