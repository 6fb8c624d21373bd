/-! what a put rests on: steps (below 3008) and entries of the log (from 3008 on), as sets -/
abbrev SetB : Type := Nat → Nat → Prop
def stP (S : SetB) (Q : Nat → Prop) (p : Nat) : SetB := fun p' k => if p' = p then Q k else S p' k
theorem stP_y {S : SetB} {Q : Nat → Prop} {p k : Nat} : stP S Q p p k = Q k := if_pos rfl
theorem stP_n {S : SetB} {Q : Nat → Prop} {p p' k : Nat} (h : p' ≠ p) : stP S Q p p' k = S p' k := if_neg h
/-- the set of the n-th of N puts: its step, its entry, and what the two puts have that were looked at -/
def RsT (s e a b : Nat → Int32) : Nat → Nat → Nat → Prop
  | 0, _, _ => False
  | N + 1, n, k => if n = N then ((k < 3008 ∧ s N = nI k) ∨ (∃ j, j < 800 ∧ e N = nI j ∧ k = 3008 + j) ∨ (∃ m, m < N ∧ a N = nI m ∧ RsT s e a b N m k) ∨ ∃ m, m < N ∧ b N = nI m ∧ RsT s e a b N m k) else RsT s e a b N n k
def inS (s e a b : Nat → Int32) (N : Nat) (x : Int32) (k : Nat) : Prop := ∃ n, n < N ∧ x = nI n ∧ RsT s e a b N n k
section ZA
variable {pt pp s e a b pt' pp' s' e' a' b' : Nat → Int32} {N T M M' n k : Nat} {x : Int32} {S S' : Nat → SetB}
theorem RsT_s : RsT s e a b (N + 1) N k ↔ ((k < 3008 ∧ s N = nI k) ∨ (∃ j, j < 800 ∧ e N = nI j ∧ k = 3008 + j) ∨ inS s e a b N (a N) k ∨ inS s e a b N (b N) k) := by
  show (if N = N then _ else _) ↔ _
  rw [if_pos rfl]
  exact Iff.rfl
theorem RsT_n (h : n ≠ N) : RsT s e a b (N + 1) n k = RsT s e a b N n k := if_neg h
theorem RsT_up (h : n < M) : ∀ N, M ≤ N → RsT s e a b N n k = RsT s e a b M n k
  | 0, hN => by omega
  | N + 1, hN => by
    rcases Nat.lt_or_ge N M with y | y
    · rw [show M = N + 1 by omega]
    · rw [RsT_n (by omega)]
      exact RsT_up h N y
theorem RsT_c : ∀ N, (∀ n, n < N → s' n = s n ∧ e' n = e n ∧ a' n = a n ∧ b' n = b n) → RsT s' e' a' b' N = RsT s e a b N
  | 0, _ => by
    funext n k
    rfl
  | N + 1, h => by
    obtain ⟨h1, h2, h3, h4⟩ := h N (by omega)
    funext n k
    show (if n = N then ((k < 3008 ∧ s' N = nI k) ∨ (∃ j, j < 800 ∧ e' N = nI j ∧ k = 3008 + j) ∨ (∃ m, m < N ∧ a' N = nI m ∧ RsT s' e' a' b' N m k) ∨ ∃ m, m < N ∧ b' N = nI m ∧ RsT s' e' a' b' N m k) else RsT s' e' a' b' N n k) = _
    rw [h1, h2, h3, h4, RsT_c N (fun i hi => h i (by omega))]
    rfl
theorem inS_cut (hx : isPt M x) (h1 : M ≤ M') (h2 : M' ≤ N) (hN : N < 2 ^ 31) : inS s e a b N x k ↔ inS s e a b M' x k := by
  rcases hx with rfl | ⟨m, hm, rfl⟩
  · constructor
    · rintro ⟨n, hn, e1, -⟩
      exact absurd e1.symm (nI_m1 (by omega))
    · rintro ⟨n, hn, e1, -⟩
      exact absurd e1.symm (nI_m1 (by omega))
  · constructor
    · rintro ⟨n, hn, e1, hr⟩
      have en : m = n := nI_inj (by omega) (by omega) e1
      rw [← en, RsT_up (M := M') (by omega) N h2] at hr
      exact ⟨m, by omega, rfl, hr⟩
    · rintro ⟨n, hn, e1, hr⟩
      have en : m = n := nI_inj (by omega) (by omega) e1
      rw [← en] at hr
      refine ⟨m, by omega, rfl, ?_⟩
      rw [RsT_up (M := M') (by omega) N h2]
      exact hr
/-- the columns of N puts, up to time T, tell the sets of S -/
def RXC (pt pp s e a b : Nat → Int32) (N T : Nat) (S : Nat → SetB) : Prop := (∀ n, n < N → (s n = -1 ∨ ∃ k, k < 3000 ∧ s n = nI k ∧ pt n = nI (k + 1)) ∧ isPt n (a n) ∧ isPt n (b n)) ∧ (∀ i j k, i < N → j < N → k < 3000 → s i = nI k → s j = nI k → i = j) ∧ ∀ t p k, t ≤ T → p < 40 → k < 3808 → (S t p k ↔ inS s e a b N (lat pp p (cP pt t N)) k)
theorem RXC_c (h : RXC pt pp s e a b N T S) (hc : ∀ n, n < N → pt' n = pt n ∧ pp' n = pp n ∧ s' n = s n ∧ e' n = e n ∧ a' n = a n ∧ b' n = b n) (hS : ∀ t, t ≤ T → S' t = S t) : RXC pt' pp' s' e' a' b' N T S' := by
  obtain ⟨h1, h2, h3⟩ := h
  refine ⟨fun n hn => ?_, fun i j k hi hj hk e1 e2 => ?_, fun t p k ht hp hk => ?_⟩
  · obtain ⟨c1, c2, c3, c4, c5, c6⟩ := hc n hn
    rw [c1, c3, c5, c6]
    exact h1 n hn
  · rw [(hc i hi).2.2.1] at e1
    rw [(hc j hj).2.2.1] at e2
    exact h2 i j k hi hj hk e1 e2
  · rw [hS t ht, cP_c N (fun n hn => (hc n hn).1), lat_c (cP pt t N) (fun n hn => (hc n (Nat.lt_of_lt_of_le hn (cP_le N))).2.1)]
    unfold inS
    rw [RsT_c N (fun n hn => ⟨(hc n hn).2.2.1, (hc n hn).2.2.2.1, (hc n hn).2.2.2.2.1, (hc n hn).2.2.2.2.2⟩)]
    exact h3 t p k ht hp hk
theorem RXC_0 (hS : ∀ p k, ¬ S 0 p k) : RXC pt pp s e a b 0 0 S := ⟨fun n hn => absurd hn (Nat.not_lt_zero n), fun i _ _ hi => absurd hi (Nat.not_lt_zero i), fun t p k ht hp hk => by
  rw [show t = 0 by omega]
  exact ⟨fun z => absurd z (hS p k), fun ⟨n, hn, _⟩ => absurd hn (Nat.not_lt_zero n)⟩⟩
theorem RXC_cut {t0 : Nat} (h : RXC pt pp s e a b N T S) (hm : monoP pt N) (hN : N ≤ 3800) (h0 : t0 ≤ T) : RXC pt pp s e a b (cP pt t0 N) t0 S := by
  obtain ⟨h1, h2, h3⟩ := h
  have hle := cP_le (pt := pt) (t := t0) N
  refine ⟨fun n hn => h1 n (by omega), fun i j k hi hj hk e1 e2 => h2 i j k (by omega) (by omega) hk e1 e2, fun t p k ht hp hk => ?_⟩
  rw [h3 t p k (by omega) hp hk, cP_cut hm ht]
  exact inS_cut (lat_pt (cP pt t N)) (cP_mono ht N) hle (by omega)
theorem RXC_add {τ p0 : Nat} (h : RXC pt pp s e a b N T S) (hτ : τ = T ∨ τ = T + 1) (hN : N < 3800) (hT : τ ≤ 3000) (hle : ∀ n, n < N → tn (pt n) ≤ T) (hc : ∀ n, n < N → pt' n = pt n ∧ pp' n = pp n ∧ s' n = s n ∧ e' n = e n ∧ a' n = a n ∧ b' n = b n) (hpt : pt' N = nI τ) (hpp : pp' N = nI p0) (hp0 : p0 < 40) (hs : s' N = -1 ∨ (s' N = nI T ∧ τ = T + 1)) (ha : isPt N (a' N)) (hb : isPt N (b' N)) (hS : ∀ t, t < τ → S' t = S t) (hS1 : ∀ p k, p < 40 → p ≠ p0 → k < 3808 → (S' τ p k ↔ S T p k)) (hS2 : ∀ k, k < 3808 → (S' τ p0 k ↔ ((k < 3008 ∧ s' N = nI k) ∨ (∃ j, j < 800 ∧ e' N = nI j ∧ k = 3008 + j) ∨ inS s e a b N (a' N) k ∨ inS s e a b N (b' N) k))) : RXC pt' pp' s' e' a' b' (N + 1) τ S' := by
  obtain ⟨h1, h2, h3⟩ := RXC_c (S' := S) h hc (fun _ _ => rfl)
  have hle' : ∀ n, n < N → tn (pt' n) ≤ T := fun n hn => by
    rw [(hc n hn).1]
    exact hle n hn
  have hall : cP pt' T N = N := cP_all hle'
  have eR : RsT s' e' a' b' N = RsT s e a b N := RsT_c N (fun n hn => ⟨(hc n hn).2.2.1, (hc n hn).2.2.2.1, (hc n hn).2.2.2.2.1, (hc n hn).2.2.2.2.2⟩)
  have eI : ∀ x k, inS s' e' a' b' N x k = inS s e a b N x k := fun x k => by
    unfold inS
    rw [eR]
  refine ⟨fun n hn => ?_, fun i j k hi hj hk e1 e2 => ?_, fun t p k ht hp hk => ?_⟩
  · rcases Nat.lt_or_ge n N with y | y
    · exact h1 n y
    · rw [show n = N by omega]
      refine ⟨?_, ha, hb⟩
      rcases hs with z | ⟨z1, z2⟩
      · exact Or.inl z
      · exact Or.inr ⟨T, by omega, z1, by rw [hpt, z2]⟩
  · have key : ∀ i, i < N → ∀ k, k < 3000 → s' i = nI k → s' N = nI k → False := fun i hi k hk e1 e2 => by
      rcases hs with z | ⟨z1, z2⟩
      · rw [z] at e2
        exact nI_m1 (by omega) e2.symm
      · have ek : T = k := nI_inj (by omega) (by omega) (z1.symm.trans e2)
        rcases (h1 i hi).1 with w | ⟨k', hk', w1, w2⟩
        · rw [w] at e1
          exact nI_m1 (by omega) e1.symm
        · have ek' : k' = k := nI_inj (by omega) (by omega) (w1.symm.trans e1)
          have := hle' i hi
          rw [w2, tnn (by omega)] at this
          omega
    rcases Nat.lt_or_ge i N with yi | yi
    · rcases Nat.lt_or_ge j N with yj | yj
      · exact h2 i j k yi yj hk e1 e2
      · rw [show j = N by omega] at e2
        exact (key i yi k hk e1 e2).elim
    · rcases Nat.lt_or_ge j N with yj | yj
      · rw [show i = N by omega] at e1
        exact (key j yj k hk e2 e1).elim
      · omega
  · have htn : tn (pt' N) = τ := by rw [hpt, tnn (by omega)]
    rcases Nat.lt_or_ge t τ with y | y
    · rw [hS t y, h3 t p k (by omega) hp hk, cP_n (show ¬ tn (pt' N) ≤ t by omega)]
      exact (inS_cut (lat_pt (cP pt' t N)) (cP_le N) (Nat.le_succ N) (by omega)).symm
    · rw [show t = τ by omega, cP_y (show tn (pt' N) ≤ τ by omega)]
      by_cases q : p = p0
      · rw [q, lat_y hpp, hS2 k hk]
        constructor
        · intro w
          refine ⟨N, Nat.lt_succ_self N, rfl, RsT_s.mpr ?_⟩
          rw [eI, eI]
          exact w
        · rintro ⟨n, hn, e1, hr⟩
          have en : N = n := nI_inj (by omega) (by omega) e1
          rw [← en] at hr
          have w := RsT_s.mp hr
          rw [eI, eI] at w
          exact w
      · rw [lat_n (by rw [hpp]; exact fun z => q (nI_inj (by omega) (by omega) z).symm), hS1 p k hp q hk, h3 T p k (Nat.le_refl T) hp hk, hall]
        exact (inS_cut (lat_pt N) (Nat.le_refl N) (Nat.le_succ N) (by omega)).symm
theorem RXC_stay (h : RXC pt pp s e a b N T S) (hle : ∀ n, n < N → tn (pt n) ≤ T) (hc : ∀ n, n < N → pt' n = pt n ∧ pp' n = pp n ∧ s' n = s n ∧ e' n = e n ∧ a' n = a n ∧ b' n = b n) (hS : ∀ t, t ≤ T → S' t = S t) (hS1 : ∀ p k, p < 40 → k < 3808 → (S' (T + 1) p k ↔ S T p k)) : RXC pt' pp' s' e' a' b' N (T + 1) S' := by
  obtain ⟨h1, h2, h3⟩ := RXC_c (S' := S') h hc hS
  have hle' : ∀ n, n < N → tn (pt' n) ≤ T := fun n hn => by
    rw [(hc n hn).1]
    exact hle n hn
  refine ⟨h1, h2, fun t p k ht hp hk => ?_⟩
  rcases Nat.lt_or_ge T t with y | y
  · rw [show t = T + 1 by omega, hS1 p k hp hk, cP_all (fun n hn => Nat.le_succ_of_le (hle' n hn))]
    have w := h3 T p k (Nat.le_refl T) hp hk
    rw [hS T (Nat.le_refl T), cP_all hle'] at w
    exact w
  · exact h3 t p k y hp hk
end ZA
/-! the reference's sets by time -/
/-- f pokes, from the log's entry lo on -/
def pkS (L : Lg) (lo : Nat) : Nat → SetB → SetB
  | 0, S => S
  | f + 1, S => stP (pkS L lo f S) (fun k => k = 3008 + (lo + f)) (tn (L.2.2.2.1 (lo + f)))
theorem pkS_1 {L : Lg} {lo : Nat} {S : SetB} : ∀ f, pkS L lo (f + 1) S = pkS L (lo + 1) f (stP S (fun k => k = 3008 + lo) (tn (L.2.2.2.1 lo)))
  | 0 => rfl
  | f + 1 => by
    show stP (pkS L lo (f + 1) S) (fun k => k = 3008 + (lo + (f + 1))) (tn (L.2.2.2.1 (lo + (f + 1)))) = stP (pkS L (lo + 1) f (stP S (fun k => k = 3008 + lo) (tn (L.2.2.2.1 lo)))) (fun k => k = 3008 + (lo + 1 + f)) (tn (L.2.2.2.1 (lo + 1 + f)))
    rw [pkS_1 f, show lo + (f + 1) = lo + 1 + f by omega]
theorem pkS_c {L L' : Lg} {lo : Nat} {S : SetB} : ∀ f, (∀ i, lo ≤ i → i < lo + f → L'.2.2.2.1 i = L.2.2.2.1 i) → pkS L' lo f S = pkS L lo f S
  | 0, _ => rfl
  | f + 1, h => by
    show stP (pkS L' lo f S) (fun k => k = 3008 + (lo + f)) (tn (L'.2.2.2.1 (lo + f))) = stP (pkS L lo f S) (fun k => k = 3008 + (lo + f)) (tn (L.2.2.2.1 (lo + f)))
    rw [pkS_c f (fun i h1 h2 => h i h1 (by omega)), h (lo + f) (by omega) (by omega)]
/-- what the put of a step rests on -/
def lkS (P : Prg) (m : Row) (l : Nat) (S : SetB) (x : Nat) : Prop := ¬ kindOf P (m 120) = -1 ∧ ((((((False ∨ ((kindOf P (m 120) = 3 ∨ kindOf P (m 120) = 11 ∨ kindOf P (m 120) = 14 ∨ kindOf P (m 120) = 13 ∨ ¬ g_X10_isIn (kindOf P (m 120)) 4 10 = 0 ∨ kindOf P (m 120) = 12) ∧ S (tn (P.2.2.1 (tn (m 120)))) x)) ∨ ((¬ g_X10_isIn (kindOf P (m 120)) 4 10 = 0 ∨ kindOf P (m 120) = 12) ∧ S (tn (P.2.2.2 (tn (m 120)))) x)) ∨ (kindOf P (m 120) = 14 ∧ S (tn (P.2.1 (tn (m 120)))) x)) ∨ ((kindOf P (m 120) = 13 ∧ ¬ g_X10_isIn (m (40 + tn (P.2.2.1 (tn (m 120))))) 0 31 = 0) ∧ S (8 + tn (m (40 + tn (P.2.2.1 (tn (m 120)))))) x)) ∨ ((kindOf P (m 120) = 19 ∨ kindOf P (m 120) = 20) ∧ x = 3008 + l)) ∨ x = tn (m 133))
def stS (P : Prg) (L : Lg) (m : Row) (l : Nat) (S : SetB) : SetB := if (mstep P m (L.2.2.1 l) (nI l)).2.2.2 = -1 then S else stP S (lkS P m l S) (tn (mstep P m (L.2.2.1 l) (nI l)).2.2.2)
def loS (P : Prg) (L : Lg) (m : Row) (l : Nat) : Nat := if (mstep P m (L.2.2.1 l) (nI l)).2.2.1 = -1 then l else l + 1
/-- the sets at each time of a replay r -/
def rS (P : Prg) (L : Lg) (r : Nat → Row × Nat) : Nat → SetB
  | 0 => pkS L 0 (r 0).2 (fun _ _ => False)
  | t + 1 => pkS L (loS P L (r t).1 (r t).2) ((r (t + 1)).2 - loS P L (r t).1 (r t).2) (stS P L (r t).1 (r t).2 (rS P L r t))
theorem rS_ext {P : Prg} {L L' : Lg} {n T t0 : Nat} {r' : Nat → Row × Nat} (h : okG P L n T) (ha : agL L L' n) (h0 : t0 ≤ T) (hr : ∀ t, t ≤ t0 → r' t = rp P L n t) : ∀ t, t ≤ t0 → rS P L' r' t = rS P L (rp P L n) t
  | 0, ht => by
    show pkS L' 0 (r' 0).2 (fun _ _ => False) = pkS L 0 (rp P L n 0).2 (fun _ _ => False)
    rw [hr 0 ht]
    have h1 := (rp_ok h 0 (by omega)).2.2
    exact pkS_c _ (fun i _ h2 => (ha i (by omega)).2.2.2.1)
  | t + 1, ht => by
    obtain ⟨i1, i2, i3⟩ := rp_ok h t (by omega)
    have i4 := (rp_ok h (t + 1) (by omega)).2.2
    have es : mstep P (rp P L n t).1 (L'.2.2.1 (rp P L n t).2) (nI (rp P L n t).2) = mstep P (rp P L n t).1 (L.2.2.1 (rp P L n t).2) (nI (rp P L n t).2) := by
      by_cases q : kindOf P ((rp P L n t).1 120) = 19 ∨ kindOf P ((rp P L n t).1 120) = 20
      · rw [(ha _ (h.2.2.2.2 t (by omega) q)).2.2.1]
      · exact step_num h.1 i1 (fun z => q (Or.inl z)) (fun z => q (Or.inr z))
    have elo : loS P L' (rp P L n t).1 (rp P L n t).2 = loS P L (rp P L n t).1 (rp P L n t).2 := by
      unfold loS
      rw [es]
    have est : ∀ S, stS P L' (rp P L n t).1 (rp P L n t).2 S = stS P L (rp P L n t).1 (rp P L n t).2 S := fun S => by
      unfold stS
      rw [es]
    show pkS L' (loS P L' (r' t).1 (r' t).2) ((r' (t + 1)).2 - loS P L' (r' t).1 (r' t).2) (stS P L' (r' t).1 (r' t).2 (rS P L' r' t)) = pkS L (loS P L (rp P L n t).1 (rp P L n t).2) ((rp P L n (t + 1)).2 - loS P L (rp P L n t).1 (rp P L n t).2) (stS P L (rp P L n t).1 (rp P L n t).2 (rS P L (rp P L n) t))
    rw [hr t (by omega), hr (t + 1) ht, rS_ext h ha h0 hr t (by omega), elo, est]
    exact pkS_c _ (fun i h1 h2 => (ha i (by omega)).2.2.2.1)
/-- the columns of the run at o tell the sets of the reference's run r -/
def RX (u um : rg_U) (o r : Nat) : Prop := RXC (u.2.1 (o + 13)) (u.2.1 (o + 14)) (u.2.1 (o + 19)) (u.2.1 (o + 20)) (u.2.1 (o + 21)) (u.2.1 (o + 22)) (tn (rF u (o + 12) 11)) (Tr um r) (rS (Pm um r) (Lm um r) (rpm um r))
theorem RX_f {u u' um : rg_U} {o r : Nat} (h : RX u um o r) (ha : ∀ j, o + 13 ≤ j → j ≤ o + 22 → u'.2.1 j = u.2.1 j) (hf : rF u' (o + 12) 11 = rF u (o + 12) 11) : RX u' um o r := by
  unfold RX
  rw [ha (o + 13) (by omega) (by omega), ha (o + 14) (by omega) (by omega), ha (o + 19) (by omega) (by omega), ha (o + 20) (by omega) (by omega), ha (o + 21) (by omega) (by omega), ha (o + 22) (by omega) (by omega), hf]
  exact h
theorem RX_m {u um um' : rg_U} {o r : Nat} (h : RX u um o r) (hP : Pm um' r = Pm um r) (hL : Lm um' r = Lm um r) (hR : ∀ t, rpm um' r t = rpm um r t) (hT : Tr um' r = Tr um r) : RX u um' o r := by
  unfold RX
  rw [hP, hL, hT, show rpm um' r = rpm um r from funext hR]
  exact h
