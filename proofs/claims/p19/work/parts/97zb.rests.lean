/-! rests of the reference: the table -/
def qS (u v : rg_U) (r : Nat) (m : Row) (l : Nat) (R A : Nat → Int32) : Prop := (∀ k, k ≠ 37 → k ≠ 38 → k ≠ 39 → k ≠ 41 → k ≠ 42 → v.1 k = u.1 k) ∧ v.1 41 = nI r ∧ v.1 42 = nI l ∧ v.2.1 31 = m ∧ v.2.1 33 = R ∧ v.2.1 34 = A ∧ ∀ j, j ≠ 31 → j ≠ 33 → j ≠ 34 → v.2.1 j = u.2.1 j
theorem qS_P {u v : rg_U} {r l : Nat} {m : Row} {R A : Nat → Int32} (h : qS u v r m l R A) : Pm v r = Pm u r ∧ Lm v r = Lm u r := by
  obtain ⟨-, -, -, -, -, -, h⟩ := h
  unfold Pm Lm
  rw [h 6 (by decide) (by decide) (by decide), h 7 (by decide) (by decide) (by decide), h 8 (by decide) (by decide) (by decide), h 9 (by decide) (by decide) (by decide), h 10 (by decide) (by decide) (by decide), h 11 (by decide) (by decide) (by decide), h 12 (by decide) (by decide) (by decide), h 13 (by decide) (by decide) (by decide), h 14 (by decide) (by decide) (by decide)]
  exact ⟨rfl, rfl⟩
theorem qS_34 {u v : rg_U} {r l : Nat} {m : Row} {R A A' : Nat → Int32} (h : qS u v r m l R A) : qS u (rw_ v 34 A') r m l R A' := by
  obtain ⟨a1, a2, a3, a4, a5, a6, a7⟩ := h
  exact ⟨a1, a2, a3, (rw_n (by decide)).trans a4, (rw_n (by decide)).trans a5, rw_A, fun j h1 h2 h3 => (rw_n h3).trans (a7 j h1 h2 h3)⟩
theorem qS_33 {u v : rg_U} {r l : Nat} {m : Row} {R R' A : Nat → Int32} (h : qS u v r m l R A) : qS u (rw_ v 33 R') r m l R' A := by
  obtain ⟨a1, a2, a3, a4, a5, a6, a7⟩ := h
  exact ⟨a1, a2, a3, (rw_n (by decide)).trans a4, rw_A, (rw_n (by decide)).trans a6, fun j h1 h2 h3 => (rw_n h2).trans (a7 j h1 h2 h3)⟩
theorem qS_31 {u v : rg_U} {r l : Nat} {m m' : Row} {R A : Nat → Int32} (h : qS u v r m l R A) : qS u (rw_ v 31 m') r m' l R A := by
  obtain ⟨a1, a2, a3, a4, a5, a6, a7⟩ := h
  exact ⟨a1, a2, a3, rw_A, (rw_n (by decide)).trans a5, (rw_n (by decide)).trans a6, fun j h1 h2 h3 => (rw_n h1).trans (a7 j h1 h2 h3)⟩
theorem qS_42 {u v : rg_U} {r l l' : Nat} {m : Row} {R A : Nat → Int32} (h : qS u v r m l R A) : qS u (sF v 0 42 (nI l')) r m l' R A := by
  obtain ⟨a1, a2, a3, a4, a5, a6, a7⟩ := h
  refine ⟨fun k h1 h2 h3 h4 h5 => ?_, ?_, rfl, a4, a5, a6, a7⟩
  · show upd v.1 42 (nI l') k = _
    rw [pk_un h5]; exact a1 k h1 h2 h3 h4 h5
  · show upd v.1 42 (nI l') 41 = _
    rw [pk_un (by decide)]; exact a2
theorem m_restPoke {F r n l : Nat} {u v : rg_U} {m : Row} {R A : Nat → Int32} (hr : r < 5) (hn : u.2.1 15 r = nI n) (hn8 : n ≤ 800) (hL : okL (Lm u r) n) (h : qS u v r m l R A) (hl : l ≤ n) (hF : 10000 < F) : (l < n ∧ (Lm u r).2.1 l = 2 ∧ (Lm u r).1 l = m 133 → ∃ w, g_X10_restPokes_l0 F v = some (.inl w) ∧ qS u w r (mput m (tn ((Lm u r).2.2.2.1 l)) ((Lm u r).2.2.2.2 l) ((Lm u r).2.2.1 l)) (l + 1) (stR R (addB (clA A) (3008 + l)) (tn ((Lm u r).2.2.2.1 l))) (addB (clA A) (3008 + l))) ∧ (¬ (l < n ∧ (Lm u r).2.1 l = 2 ∧ (Lm u r).1 l = m 133) → g_X10_restPokes_l0 F v = some (.inr v)) := by
  obtain ⟨eP, eL⟩ := qS_P h
  obtain ⟨a1, a2, a3, a4, a5, a6, a7⟩ := id h
  have a15 : v.2.1 15 r = nI n := by rw [a7 15 (by decide) (by decide) (by decide)]; exact hn
  unfold g_X10_restPokes_l0
  rw [show rF v 0 41 = nI r from a2, show rF v 0 42 = nI l from a3, ck_t (inb_nI hr (by decide)), rA_nI (by omega), a15, show (800 : Int32) * nI r + nI l = nI (800 * r + l) by rw [show (800 : Int32) * nI r = nI (800 * r) from pk_mul 800 r, nI_add]]
  by_cases q0 : l < n
  · rw [if_neg (nI_ge q0 (by omega))]
    simp only [ck_t (inb_nI (show 800 * r + l < 4000 by omega) (show 4000 < 2 ^ 31 by decide)), ck_t (show inb 133 134 by decide)]
    have d0 : rA v 10 (nI (800 * r + l)) = (Lm u r).1 l := by rw [rA_nI (by omega), ← eL, Lm_0 (by omega)]
    have d1 : rA v 11 (nI (800 * r + l)) = (Lm u r).2.1 l := by rw [rA_nI (by omega), ← eL, Lm_1 (by omega)]
    rw [d0, d1, show rA v 31 133 = m 133 from congrFun a4 133]
    by_cases q1 : (Lm u r).2.1 l = 2
    · rw [if_pos q1]
      by_cases q2 : (Lm u r).1 l = m 133
      · rw [if_pos q2]
        refine ⟨fun _ => ?_, fun z => absurd ⟨q0, q1, q2⟩ z⟩
        obtain ⟨p, hp, ep⟩ := hL l q0 q1
        have s1 := qS_34 (A' := addB (clA A) (3008 + l)) h
        have s2 := qS_33 (R' := stR R (addB (clA A) (3008 + l)) p) s1
        have g : ∀ w, qS u w r m l R (addB (clA A) (3008 + l)) → rA w 13 (nI (800 * r + l)) = nI p := fun w hw => by
          rw [← ep, rA_nI (by omega), ← (qS_P hw).2, Lm_3 (by omega)]
        have g13 : rA (rw_ (rw_ v 34 (addB (clA A) (3008 + l))) 33 (stR R (addB (clA A) (3008 + l)) p)) 13 (nI (800 * r + l)) = nI p := by
          rw [← ep, rA_nI (by omega), ← (qS_P s2).2, Lm_3 (by omega)]
        have g14 : rA (rw_ (rw_ v 34 (addB (clA A) (3008 + l))) 33 (stR R (addB (clA A) (3008 + l)) p)) 14 (nI (800 * r + l)) = (Lm u r).2.2.2.2 l := by
          rw [rA_nI (by omega), ← (qS_P s2).2, Lm_4 (by omega)]
        have g12 : rA (rw_ (rw_ v 34 (addB (clA A) (3008 + l))) 33 (stR R (addB (clA A) (3008 + l)) p)) 12 (nI (800 * r + l)) = (Lm u r).2.2.1 l := by
          rw [rA_nI (by omega), ← (qS_P s2).2, Lm_2 (by omega)]
        rw [m_clearsLooked hF, ob_i, a6, show rF (rw_ v 34 (clA A)) 0 42 = nI l from a3, show (3008 : Int32) + nI l = nI (3008 + l) from nI_add 3008 l, m_adds (by omega), ob_i, rw_A, rw_rw, g _ s1, m_restsOn hp hF, ob_i, rw_A, rw_n (by decide), a5, g13, g14, g12, m_puts2 hp, ob_i, lt1_i, s2.2.2.2.1, ep, tnn (by omega)]
        have s3 := qS_31 (m' := mput m p ((Lm u r).2.2.2.2 l) ((Lm u r).2.2.1 l)) s2
        refine ⟨_, rfl, ?_⟩
        rw [show rF (rw_ (rw_ (rw_ v 34 (addB (clA A) (3008 + l))) 33 (stR R (addB (clA A) (3008 + l)) p)) 31 (mput m p ((Lm u r).2.2.2.2 l) ((Lm u r).2.2.1 l))) 0 42 = nI l from s3.2.2.1, nI_1]
        exact qS_42 s3
      · rw [if_neg q2]
        exact ⟨fun z => absurd z.2.2 q2, fun _ => rfl⟩
    · rw [if_neg q1]
      exact ⟨fun z => absurd z.2.1 q1, fun _ => rfl⟩
  · rw [if_pos (nI_le (by omega) (by omega))]
    exact ⟨fun z => absurd z.1 q0, fun _ => rfl⟩
def rpk (L : Lg) (n : Nat) : Nat → Row → Nat → (Nat → Int32) → (Nat → Int32) → (Nat → Int32) × (Nat → Int32)
  | 0, _, _, R, A => (R, A)
  | f + 1, m, l, R, A => if l < n ∧ L.2.1 l = 2 ∧ L.1 l = m 133 then rpk L n f (mput m (tn (L.2.2.2.1 l)) (L.2.2.2.2 l) (L.2.2.1 l)) (l + 1) (stR R (addB (clA A) (3008 + l)) (tn (L.2.2.2.1 l))) (addB (clA A) (3008 + l)) else (R, A)
theorem m_restPokes {F r n : Nat} {u : rg_U} (hr : r < 5) (hn : u.2.1 15 r = nI n) (hn8 : n ≤ 800) (hL : okL (Lm u r) n) (hF : 10000 < F) : ∀ (f l : Nat) (m : Row) (R A : Nat → Int32) (v : rg_U), qS u v r m l R A → n - l = f → l ≤ n → ∀ G, f < G → ∃ w, lp (fun (s : rg_U) => g_X10_restPokes_l0 F s) G v = some w ∧ qS u w r (spk (Lm u r) n m l).1 (spk (Lm u r) n m l).2 (rpk (Lm u r) n f m l R A).1 (rpk (Lm u r) n f m l R A).2
  | f, l, m, R, A, v, h, hf, hl, 0, hG => by omega
  | f, l, m, R, A, v, h, hf, hl, G + 1, hG => by
    obtain ⟨p1, p2⟩ := m_restPoke (F := F) hr hn hn8 hL h hl hF
    by_cases q : l < n ∧ (Lm u r).2.1 l = 2 ∧ (Lm u r).1 l = m 133
    · obtain ⟨w, e1, e2⟩ := p1 q
      rw [lp_l (body := fun (s : rg_U) => g_X10_restPokes_l0 F s) e1, spk_yes q]
      match f, hf, hG with
      | 0, hf, hG => omega
      | f + 1, hf, hG =>
      unfold rpk
      rw [if_pos q]
      exact m_restPokes hr hn hn8 hL hF f (l + 1) _ _ _ w e2 (by omega) (by omega) G (by omega)
    · rw [lp_r (body := fun (s : rg_U) => g_X10_restPokes_l0 F s) (p2 q), spk_no q]
      refine ⟨v, rfl, ?_⟩
      have : rpk (Lm u r) n f m l R A = (R, A) := by
        cases f with
        | zero => rfl
        | succ f => unfold rpk; rw [if_neg q]
      rw [this]
      exact h
