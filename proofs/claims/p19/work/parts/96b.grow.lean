/-! a run grows: by a poke, by a step -/
theorem spk_more {L L' : Lg} {n : Nat} (hL : okL L n) (ha : agL L L' n) : ∀ (f : Nat) (m : Row) (l : Nat), n - l = f → l ≤ n → (spk L n m l).2 = n → L'.2.1 n = 2 → L'.1 n = m 133 → spk L' (n + 1) m l = (mput (spk L n m l).1 (tn (L'.2.2.2.1 n)) (L'.2.2.2.2 n) (L'.2.2.1 n), n + 1)
  | f, m, l, hf, hl, he, h1, h2 => by
    by_cases q : l < n
    · obtain ⟨a1, a2, a3, a4, a5⟩ := ha l q
      by_cases q2 : L.2.1 l = 2 ∧ L.1 l = m 133
      · rw [spk_yes (L := L) ⟨q, q2⟩] at he ⊢
        rw [spk_yes (L := L') (n := n + 1) ⟨by omega, by rw [a2]; exact q2.1, by rw [a1]; exact q2.2⟩, a3, a4, a5]
        obtain ⟨p, hp, ep⟩ := hL l q q2.1
        match f, hf with
        | 0, hf => omega
        | f + 1, hf =>
          refine spk_more hL ha f _ (l + 1) (by omega) (by omega) he h1 ?_
          rw [mput_hi (by rw [ep, tnn (by omega)]; exact hp) (by omega)]
          exact h2
      · rw [spk_no (L := L) (fun z => q2 z.2)] at he
        exact absurd he (by dsimp only; omega)
    · have e : l = n := by omega
      subst e
      rw [spk_no (L := L) (fun z => q z.1), spk_yes (L := L') (n := l + 1) ⟨by omega, h1, h2⟩, spk_no (fun z => absurd z.1 (by omega))]
theorem nI_inj {a b : Nat} (ha : a < 2 ^ 31) (hb : b < 2 ^ 31) (h : nI a = nI b) : a = b := (nI_eq ha hb).mp h
theorem poke_rp {P : Prg} {L L' : Lg} {n T : Nat} (h : okW P L n T) (ha : agL L L' n) (h1 : L'.2.1 n = 2) (h2 : L'.1 n = nI T) : (∀ t, t < T → rp P L' (n + 1) t = rp P L n t) ∧ rp P L' (n + 1) T = (mput (rp P L n T).1 (tn (L'.2.2.2.1 n)) (L'.2.2.2.2 n) (L'.2.2.1 n), n + 1) := by
  have hT := h.1.2.2.2.1
  have hlt : ∀ t, t < T → rp P L' (n + 1) t = rp P L n t := fun t ht => rp_ext h.1 ha (Nat.le_succ n) (t0 := T - 1) (by omega) (fun _ s hs q => by
    have := nI_inj (by omega) (by omega) (h2.symm.trans q.2)
    omega) t (by omega)
  refine ⟨hlt, ?_⟩
  have hend := h.2.2.1
  have htime := (rp_ok h.1 T (Nat.le_refl _)).2.1
  match T, h, hT, hlt, h2, hend, htime with
  | 0, h, hT, hlt, h2, hend, htime =>
    exact spk_more h.1.2.1 ha _ zrow 0 rfl (Nat.zero_le _) hend h1 h2
  | T + 1, h, hT, hlt, h2, hend, htime =>
    show nxt P L' (n + 1) (rp P L' (n + 1) T).1 (rp P L' (n + 1) T).2 = _
    rw [hlt T (by omega)]
    obtain ⟨i1, i2, i3⟩ := rp_ok h.1 T (by omega)
    have n8 := h.1.2.2.1
    have htake := h.1.2.2.2.2 T (by omega)
    have e1 : mstep P (rp P L n T).1 (L'.2.2.1 (rp P L n T).2) (nI (rp P L n T).2) = mstep P (rp P L n T).1 (L.2.2.1 (rp P L n T).2) (nI (rp P L n T).2) := by
      by_cases q : kindOf P ((rp P L n T).1 120) = 19 ∨ kindOf P ((rp P L n T).1 120) = 20
      · rw [(ha _ (htake q)).2.2.1]
      · exact step_num h.1.1 i1 (fun z => q (Or.inl z)) (fun z => q (Or.inr z))
    have hs := ok_step (num := L.2.2.1 (rp P L n T).2) (en := nI (rp P L n T).2) h.1.1 i1
    have hl : (if (mstep P (rp P L n T).1 (L.2.2.1 (rp P L n T).2) (nI (rp P L n T).2)).2.2.1 = -1 then (rp P L n T).2 else (rp P L n T).2 + 1) ≤ n := by
      rcases nxt_l (num := L.2.2.1 (rp P L n T).2) h.1.1 i1 (show (rp P L n T).2 < 2 ^ 31 by omega) with q | ⟨q1, q2⟩
      · rw [if_pos q]; exact i3
      · rw [if_neg q2]; exact htake q1
    have hend2 : (nxt P L n (rp P L n T).1 (rp P L n T).2).2 = n := hend
    show nxt P L' (n + 1) (rp P L n T).1 (rp P L n T).2 = (mput (nxt P L n (rp P L n T).1 (rp P L n T).2).1 (tn (L'.2.2.2.1 n)) (L'.2.2.2.2 n) (L'.2.2.1 n), n + 1)
    unfold nxt at hend2 ⊢
    rw [e1]
    exact spk_more h.1.2.1 ha _ _ _ rfl hl hend2 h1 (by rw [hs.2.1, i2, nI_1]; exact h2)
theorem okW_poke {P : Prg} {L L' : Lg} {n T p : Nat} (h : okW P L n T) (ha : agL L L' n) (hn : n < 800) (h1 : L'.2.1 n = 2) (h2 : L'.1 n = nI T) (hp : p < 40) (h3 : L'.2.2.2.1 n = nI p) : okW P L' (n + 1) T := by
  obtain ⟨hlt, hT⟩ := poke_rp h ha h1 h2
  have hT3 := h.1.2.2.2.1
  refine ⟨⟨h.1.1, fun k hk q => ?_, by omega, hT3, fun t ht q => ?_⟩, fun k hk => ?_, by rw [hT], fun t ht => by rw [hlt t ht]; exact h.2.2.2 t ht⟩
  · by_cases z : k < n
    · rw [(ha k z).2.2.2.1]
      exact h.1.2.1 k z (by rw [← (ha k z).2.1]; exact q)
    · have : k = n := by omega
      subst this
      exact ⟨p, hp, h3⟩
  · rw [hlt t ht] at q ⊢
    exact Nat.lt_succ_of_lt (h.1.2.2.2.2 t ht q)
  · by_cases z : k < n
    · obtain ⟨qq, c1, c2, c3⟩ := h.2.1 k z
      refine ⟨qq, c1, by rw [(ha k z).1]; exact c2, fun t ht => ?_⟩
      rw [(ha k z).2.1]
      by_cases y : t < T
      · rw [hlt t y]; exact c3 t ht
      · have e : t = T := by omega
        subst e
        have c4 := c3 t ht
        rw [h.2.2.1] at c4
        rw [hT]
        dsimp only
        exact ⟨fun _ => c4.mp z, fun _ => by omega⟩
    · have e : k = n := by omega
      subst e
      refine ⟨T, Nat.le_refl _, h2, fun t ht => ?_⟩
      rw [if_pos h1]
      by_cases y : t < T
      · rw [hlt t y]
        have := (rp_ok h.1 t ht).2.2
        exact ⟨fun q => by omega, fun q => by omega⟩
      · have e : t = T := by omega
        subst e
        rw [hT]
        dsimp only
        exact ⟨fun _ => by omega, fun _ => by omega⟩
/-- whether a step takes something from outside -/
def tk (P : Prg) (m : Row) : Prop := kindOf P (m 120) = 19 ∨ kindOf P (m 120) = 20
theorem step_rp {P : Prg} {L L' : Lg} {n n' T : Nat} (h : okW P L n T) (ha : agL L L' n) (hy : tk P (rp P L n T).1 → n' = n + 1 ∧ ¬ L'.2.1 n = 2) (hno : ¬ tk P (rp P L n T).1 → n' = n) : (∀ t, t ≤ T → rp P L' n' t = rp P L n t) ∧ rp P L' n' (T + 1) = ((mstep P (rp P L n T).1 (L'.2.2.1 n) (nI n)).1, n') := by
  have hn : n ≤ n' := by
    by_cases q : tk P (rp P L n T).1
    · have := (hy q).1; omega
    · have := hno q; omega
  have hle : ∀ t, t ≤ T → rp P L' n' t = rp P L n t := rp_ext h.1 ha hn (Nat.le_refl T) (fun z t ht q => by
    by_cases y : tk P (rp P L n T).1
    · exact (hy y).2 q.1
    · have := hno y; omega)
  refine ⟨hle, ?_⟩
  obtain ⟨i1, i2, i3⟩ := rp_ok h.1 T (Nat.le_refl _)
  have n8 := h.1.2.2.1
  show nxt P L' n' (rp P L' n' T).1 (rp P L' n' T).2 = _
  rw [hle T (Nat.le_refl _), h.2.2.1]
  unfold nxt
  by_cases q : tk P (rp P L n T).1
  · rw [step_take q, if_neg (nI_m1 (by omega)), spk_no (fun z => absurd z.1 (by have := (hy q).1; omega)), (hy q).1]
  · have e : (mstep P (rp P L n T).1 (L'.2.2.1 n) (nI n)).2.2.1 = -1 := by
      rcases (ok_step (num := L'.2.2.1 n) (en := nI n) h.1.1 i1).2.2 with z | ⟨z, -⟩
      · exact z
      · exact absurd z q
    rw [if_pos e, spk_no (fun z => absurd z.1 (by have := hno q; omega)), hno q]
theorem okW_step {P : Prg} {L L' : Lg} {n n' T : Nat} (h : okW P L n T) (ha : agL L L' n) (hy : tk P (rp P L n T).1 → n' = n + 1 ∧ ¬ L'.2.1 n = 2 ∧ L'.1 n = nI T ∧ n < 800) (hno : ¬ tk P (rp P L n T).1 → n' = n) (hT : T < 3000) (hlive : (rp P L n T).1 132 = 0) : okW P L' n' (T + 1) := by
  obtain ⟨hle, hS⟩ := step_rp h ha (fun q => ⟨(hy q).1, (hy q).2.1⟩) hno
  have hn8 := h.1.2.2.1
  have hn : n ≤ n' ∧ n' ≤ n + 1 := by
    by_cases q : tk P (rp P L n T).1
    · have := (hy q).1; omega
    · have := hno q; omega
  refine ⟨⟨h.1.1, fun k hk q => ?_, ?_, by omega, fun t ht q => ?_⟩, fun k hk => ?_, by rw [hS], fun t ht => ?_⟩
  · by_cases z : k < n
    · rw [(ha k z).2.2.2.1]
      exact h.1.2.1 k z (by rw [← (ha k z).2.1]; exact q)
    · by_cases y : tk P (rp P L n T).1
      · have : k = n := by have := (hy y).1; omega
        subst this
        exact absurd q (hy y).2.1
      · have := hno y; omega
  · by_cases y : tk P (rp P L n T).1
    · have := hy y; omega
    · have := hno y; omega
  · rw [hle t (by omega)] at q ⊢
    by_cases z : t < T
    · have := h.1.2.2.2.2 t z q; omega
    · have e : t = T := by omega
      subst e
      have := (hy q).1
      rw [h.2.2.1]
      omega
  · by_cases z : k < n
    · obtain ⟨qq, c1, c2, c3⟩ := h.2.1 k z
      refine ⟨qq, by omega, by rw [(ha k z).1]; exact c2, fun t ht => ?_⟩
      rw [(ha k z).2.1]
      by_cases y : t ≤ T
      · rw [hle t y]; exact c3 t y
      · have e : t = T + 1 := by omega
        subst e
        rw [hS]
        dsimp only
        exact ⟨fun _ => by omega, fun _ => by omega⟩
    · by_cases y : tk P (rp P L n T).1
      · obtain ⟨y1, y2, y3, y4⟩ := hy y
        have e : k = n := by omega
        subst e
        refine ⟨T, by omega, y3, fun t ht => ?_⟩
        rw [if_neg y2]
        by_cases x : t ≤ T
        · rw [hle t x]
          have := (rp_ok h.1 t x).2.2
          exact ⟨fun q => by omega, fun q => by omega⟩
        · have e : t = T + 1 := by omega
          subst e
          rw [hS]
          dsimp only
          exact ⟨fun _ => by omega, fun _ => by omega⟩
      · have := hno y; omega
  · rw [hle t (by omega)]
    by_cases z : t < T
    · exact h.2.2.2 t z
    · have e : t = T := by omega
      subst e
      exact hlive
theorem okW_new {P : Prg} {L : Lg} (hP : okP P) : okW P L 0 0 ∧ rp P L 0 0 = (zrow, 0) := by
  have e : rp P L 0 0 = (zrow, 0) := spk_no (fun z => absurd z.1 (by omega))
  refine ⟨⟨⟨hP, fun k hk => by omega, by omega, by omega, fun t ht => by omega⟩, fun k hk => by omega, by rw [e], fun t ht => by omega⟩, e⟩
