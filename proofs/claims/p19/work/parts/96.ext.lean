/-! a log that grows, a log that is cut: the states of earlier times stay -/
def agL (L L' : Lg) (n : Nat) : Prop := ∀ k, k < n → L'.1 k = L.1 k ∧ L'.2.1 k = L.2.1 k ∧ L'.2.2.1 k = L.2.2.1 k ∧ L'.2.2.2.1 k = L.2.2.2.1 k ∧ L'.2.2.2.2 k = L.2.2.2.2 k
theorem agL_r {L : Lg} {n : Nat} : agL L L n := fun _ _ => ⟨rfl, rfl, rfl, rfl, rfl⟩
theorem spk_ext {L L' : Lg} {n n' : Nat} (hL : okL L n) (ha : agL L L' n) (hn : n ≤ n') : ∀ (f : Nat) (m : Row) (l : Nat), n - l = f → l ≤ n → (n < n' → ¬ (L'.2.1 n = 2 ∧ L'.1 n = m 133)) → spk L' n' m l = spk L n m l
  | f, m, l, hf, hl, hx => by
    by_cases q : l < n
    · obtain ⟨a1, a2, a3, a4, a5⟩ := ha l q
      by_cases q2 : L.2.1 l = 2 ∧ L.1 l = m 133
      · rw [spk_yes (L := L) ⟨q, q2⟩, spk_yes (L := L') (n := n') ⟨by omega, by rw [a2]; exact q2.1, by rw [a1]; exact q2.2⟩, a3, a4, a5]
        obtain ⟨p, hp, ep⟩ := hL l q q2.1
        match f, hf with
        | 0, hf => omega
        | f + 1, hf =>
          refine spk_ext hL ha hn f _ (l + 1) (by omega) (by omega) (fun h => ?_)
          rw [mput_hi (by rw [ep, tnn (by omega)]; exact hp) (by omega)]
          exact hx h
      · rw [spk_no (L := L) (fun z => q2 z.2), spk_no (L := L') (fun z => q2 ⟨by rw [← a2]; exact z.2.1, by rw [← a1]; exact z.2.2⟩)]
    · have e : l = n := by omega
      subst e
      rw [spk_no (L := L) (fun z => q z.1), spk_no (L := L') (fun z => hx z.1 z.2)]
theorem rp_ext {P : Prg} {L L' : Lg} {n n' T : Nat} (h : okG P L n T) (ha : agL L L' n) (hn : n ≤ n') {t0 : Nat} (ht : t0 ≤ T) (hx : n < n' → ∀ t, t ≤ t0 → ¬ (L'.2.1 n = 2 ∧ L'.1 n = nI t)) : ∀ t, t ≤ t0 → rp P L' n' t = rp P L n t
  | 0, h0 => spk_ext h.2.1 ha hn _ zrow 0 rfl (Nat.zero_le _) (fun q => hx q 0 h0)
  | t + 1, h1 => by
    show nxt P L' n' (rp P L' n' t).1 (rp P L' n' t).2 = nxt P L n (rp P L n t).1 (rp P L n t).2
    rw [rp_ext h ha hn ht hx t (by omega)]
    obtain ⟨i1, i2, i3⟩ := rp_ok h t (by omega)
    have n8 := h.2.2.1
    have htake := h.2.2.2.2 t (by omega)
    have e1 : mstep P (rp P L n t).1 (L'.2.2.1 (rp P L n t).2) (nI (rp P L n t).2) = mstep P (rp P L n t).1 (L.2.2.1 (rp P L n t).2) (nI (rp P L n t).2) := by
      by_cases q : kindOf P ((rp P L n t).1 120) = 19 ∨ kindOf P ((rp P L n t).1 120) = 20
      · rw [(ha _ (htake q)).2.2.1]
      · exact step_num h.1 i1 (fun z => q (Or.inl z)) (fun z => q (Or.inr z))
    unfold nxt
    rw [e1]
    have hs := ok_step (num := L.2.2.1 (rp P L n t).2) (en := nI (rp P L n t).2) h.1 i1
    have hl : (if (mstep P (rp P L n t).1 (L.2.2.1 (rp P L n t).2) (nI (rp P L n t).2)).2.2.1 = -1 then (rp P L n t).2 else (rp P L n t).2 + 1) ≤ n := by
      rcases nxt_l (num := L.2.2.1 (rp P L n t).2) h.1 i1 (show (rp P L n t).2 < 2 ^ 31 by omega) with q | ⟨q1, q2⟩
      · rw [if_pos q]; exact i3
      · rw [if_neg q2]; exact htake q1
    refine spk_ext h.2.1 ha hn _ _ _ rfl hl (fun q => ?_)
    rw [hs.2.1, i2, nI_1]
    exact hx q (t + 1) h1
theorem spk_trunc {L : Lg} {n n' : Nat} (hn : n' ≤ n) : ∀ (f : Nat) (m : Row) (l : Nat), n - l = f → l ≤ n → (spk L n m l).2 ≤ n' → spk L n' m l = spk L n m l
  | f, m, l, hf, hl, hx => by
    by_cases q : l < n ∧ L.2.1 l = 2 ∧ L.1 l = m 133
    · rw [spk_yes q] at hx ⊢
      match f, hf with
      | 0, hf => omega
      | f + 1, hf =>
        have h1 := (spk_le (L := L) (n := n) f (mput m (tn (L.2.2.2.1 l)) (L.2.2.2.2 l) (L.2.2.1 l)) (l + 1) (by omega) (by omega)).1
        rw [spk_yes (n := n') ⟨by omega, q.2⟩]
        exact spk_trunc hn f _ (l + 1) (by omega) (by omega) hx
    · rw [spk_no q] at hx ⊢
      rw [spk_no (fun z => q ⟨by omega, z.2⟩)]
theorem nxt_le {P : Prg} {L : Lg} {n T t : Nat} (h : okG P L n T) (ht : t < T) : (rp P L n t).2 ≤ (rp P L n (t + 1)).2 := by
  obtain ⟨i1, i2, i3⟩ := rp_ok h t (by omega)
  have n8 := h.2.2.1
  show _ ≤ (nxt P L n (rp P L n t).1 (rp P L n t).2).2
  unfold nxt
  rcases nxt_l (num := L.2.2.1 (rp P L n t).2) h.1 i1 (show (rp P L n t).2 < 2 ^ 31 by omega) with q | ⟨q1, q2⟩
  · rw [if_pos q]
    exact (spk_le (L := L) (n := n) _ _ _ rfl i3).1
  · rw [if_neg q2]
    have := (spk_le (L := L) (n := n) _ (mstep P (rp P L n t).1 (L.2.2.1 (rp P L n t).2) (nI (rp P L n t).2)).1 ((rp P L n t).2 + 1) rfl (h.2.2.2.2 t ht q1)).1
    omega
theorem rp_mono {P : Prg} {L : Lg} {n T : Nat} (h : okG P L n T) {t : Nat} : ∀ s, t + s ≤ T → (rp P L n t).2 ≤ (rp P L n (t + s)).2
  | 0, _ => Nat.le_refl _
  | s + 1, hs => Nat.le_trans (rp_mono h s (by omega)) (nxt_le h (by omega))
theorem rp_trunc {P : Prg} {L : Lg} {n T t0 : Nat} (h : okG P L n T) (h0 : t0 ≤ T) : ∀ t, t ≤ t0 → rp P L (rp P L n t0).2 t = rp P L n t
  | 0, ht => by
    have n3 := (rp_ok h t0 h0).2.2
    have hm := rp_mono h (t := 0) t0 (by omega)
    rw [Nat.zero_add] at hm
    exact spk_trunc n3 _ zrow 0 rfl (Nat.zero_le _) hm
  | t + 1, ht => by
    show nxt P L _ (rp P L _ t).1 (rp P L _ t).2 = nxt P L n (rp P L n t).1 (rp P L n t).2
    rw [rp_trunc h h0 t (by omega)]
    obtain ⟨i1, i2, i3⟩ := rp_ok h t (by omega)
    have n8 := h.2.2.1
    have n3 := (rp_ok h t0 h0).2.2
    have hm := rp_mono h (t := t + 1) (t0 - (t + 1)) (by omega)
    rw [show t + 1 + (t0 - (t + 1)) = t0 by omega] at hm
    have hm2 : (nxt P L n (rp P L n t).1 (rp P L n t).2).2 ≤ (rp P L n t0).2 := hm
    unfold nxt at hm2 ⊢
    have hl : (if (mstep P (rp P L n t).1 (L.2.2.1 (rp P L n t).2) (nI (rp P L n t).2)).2.2.1 = -1 then (rp P L n t).2 else (rp P L n t).2 + 1) ≤ n := by
      rcases nxt_l (num := L.2.2.1 (rp P L n t).2) h.1 i1 (show (rp P L n t).2 < 2 ^ 31 by omega) with q | ⟨q1, q2⟩
      · rw [if_pos q]; exact i3
      · rw [if_neg q2]; exact h.2.2.2.2 t (by omega) q1
    exact spk_trunc n3 _ _ _ rfl hl hm2
/-- the log's order: entry k belongs to the states of times above its own (a poke: from its own on) -/
def okO (P : Prg) (L : Lg) (n T : Nat) : Prop := ∀ k, k < n → ∃ q, q ≤ T ∧ L.1 k = nI q ∧ ∀ t, t ≤ T → (k < (rp P L n t).2 ↔ q < t + (if L.2.1 k = 2 then 1 else 0))
/-- all that holds of a run: program, log of n entries, time T -/
def okW (P : Prg) (L : Lg) (n T : Nat) : Prop := okG P L n T ∧ okO P L n T ∧ (rp P L n T).2 = n ∧ ∀ t, t < T → (rp P L n t).1 132 = 0
theorem okW_cut {P : Prg} {L : Lg} {n T t0 : Nat} (h : okW P L n T) (h0 : t0 ≤ T) : okW P L (rp P L n t0).2 t0 := by
  have n3 := (rp_ok h.1 t0 h0).2.2
  have hn8 := h.1.2.2.1
  have hT := h.1.2.2.2.1
  refine ⟨⟨h.1.1, fun k hk => h.1.2.1 k (by omega), by omega, by omega, fun t ht q => ?_⟩, fun k hk => ?_, by rw [rp_trunc h.1 h0 t0 (Nat.le_refl _)], fun t ht => by rw [rp_trunc h.1 h0 t (by omega)]; exact h.2.2.2 t (by omega)⟩
  · rw [rp_trunc h.1 h0 t (by omega)] at q ⊢
    have hlt := h.1.2.2.2.2 t (by omega) q
    have i := rp_ok h.1 t (by omega)
    -- the step at t takes entry (rp t).2, so it lies below that of t + 1, which is at most that of t0
    have hm := rp_mono h.1 (t := t + 1) (t0 - (t + 1)) (by omega)
    rw [show t + 1 + (t0 - (t + 1)) = t0 by omega] at hm
    have hs : (rp P L n t).2 < (rp P L n (t + 1)).2 := by
      obtain ⟨qq, hq1, hq2, hq3⟩ := h.2.1 (rp P L n t).2 hlt
      have a1 := (hq3 t (by omega))
      have a2 := (hq3 (t + 1) (by omega))
      show (rp P L n t).2 < (nxt P L n (rp P L n t).1 (rp P L n t).2).2
      unfold nxt
      rcases nxt_l (num := L.2.2.1 (rp P L n t).2) h.1.1 i.1 (show (rp P L n t).2 < 2 ^ 31 by omega) with z | ⟨z1, z2⟩
      · exfalso
        have : (mstep P (rp P L n t).1 (L.2.2.1 (rp P L n t).2) (nI (rp P L n t).2)).2.2.1 = nI (rp P L n t).2 := by
          exact step_take q
        rw [this] at z
        exact nI_m1 (by omega) z
      · rw [if_neg z2]
        have := (spk_le (L := L) (n := n) _ (mstep P (rp P L n t).1 (L.2.2.1 (rp P L n t).2) (nI (rp P L n t).2)).1 ((rp P L n t).2 + 1) rfl (by omega)).1
        omega
    omega
  · obtain ⟨qq, hq1, hq2, hq3⟩ := h.2.1 k (by omega)
    refine ⟨qq, ?_, hq2, fun t ht => ?_⟩
    · have := (hq3 t0 h0).mp hk
      by_cases z : L.2.1 k = 2
      · rw [if_pos z] at this; omega
      · rw [if_neg z] at this; omega
    · rw [rp_trunc h.1 h0 t ht]
      exact hq3 t (by omega)
