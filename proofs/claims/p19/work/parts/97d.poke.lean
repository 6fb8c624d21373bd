/-! an entry of the log; poke -/
def ntS (u : rg_U) (n : Nat) (s num pl v : Int32) : rg_U := rg_R (rg_R (rg_R (rg_R (rg_R (rg_R u 10 (3200 + n) (u.2.1 21 4)) 11 (3200 + n) s) 12 (3200 + n) num) 13 (3200 + n) pl) 14 (3200 + n) v) 15 4 (nI (n + 1))
theorem ntS_1 {u : rg_U} {n : Nat} {s num pl v : Int32} : (ntS u n s num pl v).1 = u.1 := rfl
theorem ntS_at {u : rg_U} {n : Nat} {s num pl v : Int32} (j i : Nat) : (ntS u n s num pl v).2.1 j i = if j = 15 ∧ i = 4 then nI (n + 1) else if (10 ≤ j ∧ j ≤ 14) ∧ i = 3200 + n then (if j = 10 then u.2.1 21 4 else if j = 11 then s else if j = 12 then num else if j = 13 then pl else v) else u.2.1 j i := by
  unfold ntS
  rw [R_at, R_at, R_at, R_at, R_at, R_at]
  by_cases h1 : j = 15 ∧ i = 4
  · rw [if_pos h1, if_pos h1]
  rw [if_neg h1, if_neg h1]
  by_cases h2 : i = 3200 + n
  · by_cases j14 : j = 14
    · subst j14; rw [if_pos ⟨rfl, h2⟩, if_pos ⟨by omega, h2⟩]; rfl
    rw [if_neg (fun z => j14 z.1)]
    by_cases j13 : j = 13
    · subst j13; rw [if_pos ⟨rfl, h2⟩, if_pos ⟨by omega, h2⟩]; rfl
    rw [if_neg (fun z => j13 z.1)]
    by_cases j12 : j = 12
    · subst j12; rw [if_pos ⟨rfl, h2⟩, if_pos ⟨by omega, h2⟩]; rfl
    rw [if_neg (fun z => j12 z.1)]
    by_cases j11 : j = 11
    · subst j11; rw [if_pos ⟨rfl, h2⟩, if_pos ⟨by omega, h2⟩]; rfl
    rw [if_neg (fun z => j11 z.1)]
    by_cases j10 : j = 10
    · subst j10; rw [if_pos ⟨rfl, h2⟩, if_pos ⟨by omega, h2⟩]; rfl
    rw [if_neg (fun z => j10 z.1), if_neg (by omega)]
  · rw [if_neg (fun z => h2 z.2), if_neg (fun z => h2 z.2), if_neg (fun z => h2 z.2), if_neg (fun z => h2 z.2), if_neg (fun z => h2 z.2), if_neg (fun z => h2 z.2)]
theorem ntS_n {u : rg_U} {n j : Nat} {s num pl v : Int32} (h : j < 10 ∨ 15 < j) : (ntS u n s num pl v).2.1 j = u.2.1 j := by
  funext i
  rw [ntS_at, if_neg (by omega), if_neg (by omega)]
theorem ntS_15 {u : rg_U} {n i : Nat} {s num pl v : Int32} (h : i ≠ 4) : (ntS u n s num pl v).2.1 15 i = u.2.1 15 i := by
  rw [ntS_at, if_neg (by omega), if_neg (by omega)]
theorem ntS_Lm {u : rg_U} {n : Nat} {s num pl v : Int32} (hn : n < 800) : agL (Lm u 4) (Lm (ntS u n s num pl v) 4) n ∧ (Lm (ntS u n s num pl v) 4).1 n = u.2.1 21 4 ∧ (Lm (ntS u n s num pl v) 4).2.1 n = s ∧ (Lm (ntS u n s num pl v) 4).2.2.1 n = num ∧ (Lm (ntS u n s num pl v) 4).2.2.2.1 n = pl ∧ (Lm (ntS u n s num pl v) 4).2.2.2.2 n = v := by
  refine ⟨fun k hk => ?_, ?_, ?_, ?_, ?_, ?_⟩
  · rw [Lm_0 (by omega), Lm_1 (by omega), Lm_2 (by omega), Lm_3 (by omega), Lm_4 (by omega), Lm_0 (by omega), Lm_1 (by omega), Lm_2 (by omega), Lm_3 (by omega), Lm_4 (by omega)]
    simp only [ntS_at]
    rw [if_neg (by omega), if_neg (by omega), if_neg (by omega), if_neg (by omega), if_neg (by omega), if_neg (by omega), if_neg (by omega), if_neg (by omega), if_neg (by omega), if_neg (by omega)]
    exact ⟨rfl, rfl, rfl, rfl, rfl⟩
  · rw [Lm_0 hn, ntS_at, if_neg (by omega), if_pos (by omega)]; rfl
  · rw [Lm_1 hn, ntS_at, if_neg (by omega), if_pos (by omega)]; rfl
  · rw [Lm_2 hn, ntS_at, if_neg (by omega), if_pos (by omega)]; rfl
  · rw [Lm_3 hn, ntS_at, if_neg (by omega), if_pos (by omega)]; rfl
  · rw [Lm_4 hn, ntS_at, if_neg (by omega), if_pos (by omega)]; rfl
theorem ntS_fr {u : rg_U} {n : Nat} {s num pl v : Int32} {r : Nat} (hr : r < 4) : agR u (ntS u n s num pl v) r := by
  refine ⟨fun j a b k c => ?_, fun j a b k c => ?_, fun j a => ?_, fun j a b k c => ?_, fun k c => ?_⟩
  all_goals rw [ntS_at, if_neg (by omega), if_neg (by omega)]
theorem m_notes {F n : Nat} {s num pl v : Int32} {u : rg_U} (h15 : u.2.1 15 4 = nI n) (hn : n < 800) : g_X10_notes F s num pl v u = some (ntS u n s num pl v) := by
  unfold g_X10_notes
  have e15 : rA u 15 4 = nI n := h15
  rw [ck_t (by decide), ck_t (by decide), e15, show (3200 : Int32) + nI n = nI (3200 + n) from nI_add 3200 n]
  simp only [lt1_i, ck_t (inb_nI (show 3200 + n < 4000 by omega) (by decide)), ck_t (show inb 4 5 by decide), sA_nI (show 3200 + n < 2 ^ 31 by omega)]
  have e2 : rA (rg_R (rg_R (rg_R (rg_R (rg_R u 10 (3200 + n) (rA u 21 4)) 11 (3200 + n) s) 12 (3200 + n) num) 13 (3200 + n) pl) 14 (3200 + n) v) 15 4 = nI n := h15
  rw [e2, nI_1]
  rfl
theorem mput_80 {m : Row} {p : Nat} {s n : Int32} : mput m p s n (80 + p) = m (80 + p) + (if m p = s ∧ m (40 + p) = n then 0 else 1) := by
  unfold mput
  rw [pk_un (by omega), pk_un (by omega), pk_us]
def pokeS (u : rg_U) (n p : Nat) (s num : Int32) : rg_U := sF (rw_ (ntS u n 2 num (nI p) s) 28 (mput (u.2.1 28) p s num)) 0 41 (-1)
theorem m_poke {F K W : Nat} {x s num : Int32} {u : rg_U} (h : okM u K W) : (¬ (u.2.1 5 4 = 1 ∧ ¬ g_X10_isPlace x = 0 ∧ ¬ g_X10_isValue s num = 0 ∧ nr u 4 < 800) ∧ g_X10_poke F x s num u = some (-1, u)) ∨ ∃ p, p < 40 ∧ x = nI p ∧ u.2.1 5 4 = 1 ∧ ¬ g_X10_isValue s num = 0 ∧ nr u 4 < 800 ∧ g_X10_poke F x s num u = some ((if u.2.1 28 p = s ∧ u.2.1 28 (40 + p) = num then 0 else 1), pokeS u (nr u 4) p s num) ∧ okM (pokeS u (nr u 4) p s num) K W := by
  unfold g_X10_poke
  rw [ck_t (by decide), ck_t (by decide)]
  have e5 : rA u 5 4 = u.2.1 5 4 := rfl
  rw [e5]
  by_cases q : u.2.1 5 4 = 0
  · refine Or.inl ⟨fun z => ?_, by rw [if_pos q]⟩
    rw [q] at z
    exact absurd z.1 (by decide)
  have q1 : u.2.1 5 4 = 1 := h.1.2.1.1.resolve_left q
  rw [if_neg q]
  by_cases qp : g_X10_isPlace x = 0
  · exact Or.inl ⟨fun z => z.2.1 qp, by rw [if_pos qp]⟩
  rw [if_neg qp]
  by_cases qv : g_X10_isValue s num = 0
  · exact Or.inl ⟨fun z => z.2.2.1 qv, by rw [if_pos qv]⟩
  rw [if_neg qv]
  obtain ⟨c1, c2, c7, c8, c9, c10, c11, c14⟩ := id h.1
  have hro := c9 4 (Or.inr ⟨rfl, q1⟩)
  obtain ⟨r1, r2, r3, r4, r5, r6, r7, r8, r9⟩ := id hro
  have hn8 := r7.1.2.2.1
  have hT3 := r7.1.2.2.2.1
  rw [show rA u 15 4 = nI (nr u 4) from r1]
  by_cases qn : nr u 4 = 800
  · exact Or.inl ⟨fun z => by omega, by rw [qn, if_pos (by decide)]⟩
  have qn8 : nr u 4 < 800 := by omega
  obtain ⟨p, hp, rfl⟩ := isPl qp
  refine Or.inr ⟨p, hp, rfl, q1, qv, qn8, ?_, ?_⟩
  · rw [if_neg (show ¬ nI (nr u 4) = (800 : Int32) from fun z => qn (nI_inj (b := 800) (by omega) (by decide) z)), c80, ck_t (inb_nI (by omega) (by decide)), m_notes r1 qn8, ob_i, m_puts2 hp, ob_i, lt1_i, ck_t (inb_nI (by omega) (by decide)), rA_nI (by omega), rA_nI (by omega)]
    have e28 : (ntS u (nr u 4) 2 num (nI p) s).2.1 28 = u.2.1 28 := ntS_n (by omega)
    rw [e28]
    show some ((rw_ (ntS u (nr u 4) 2 num (nI p) s) 28 (mput (u.2.1 28) p s num)).2.1 28 (80 + p) - u.2.1 28 (80 + p), _) = _
    rw [rw_at, mput_80, Int32.add_comm, Int32.add_sub_cancel]
    rfl
  · have hA : ∀ j, j ≠ 28 → (pokeS u (nr u 4) p s num).2.1 j = (ntS u (nr u 4) 2 num (nI p) s).2.1 j := fun j hj => rw_ne hj
    have hA2 : ∀ j, j ≠ 28 → (j < 10 ∨ 15 < j) → (pokeS u (nr u 4) p s num).2.1 j = u.2.1 j := fun j h1 h2 => (hA j h1).trans (ntS_n h2)
    have hg : ∀ r, r < 4 → agR u (pokeS u (nr u 4) p s num) r := fun r hr => agR_t (ntS_fr hr) (agR_A (fun j h1 h2 => hA j (by omega)))
    obtain ⟨l1, l2, l3, l4, l5, l6⟩ := ntS_Lm (u := u) (s := 2) (num := num) (pl := nI p) (v := s) qn8
    have eL : Lm (pokeS u (nr u 4) p s num) 4 = Lm (ntS u (nr u 4) 2 num (nI p) s) 4 := Lm_g (agR_A (fun j h1 h2 => hA j (by omega)))
    have eP : Pm (pokeS u (nr u 4) p s num) 4 = Pm u 4 := by
      unfold Pm
      rw [hA2 6 (by decide) (by omega), hA2 7 (by decide) (by omega), hA2 8 (by decide) (by omega), hA2 9 (by decide) (by omega)]
    have eH : Hm (pokeS u (nr u 4) p s num) 4 = Hm u 4 := by
      unfold Hm
      rw [hA2 20 (by decide) (by omega)]
    have e15 : (pokeS u (nr u 4) p s num).2.1 15 4 = nI (nr u 4 + 1) := by rw [hA 15 (by decide), ntS_at, if_pos ⟨rfl, rfl⟩]
    have en : nr (pokeS u (nr u 4) p s num) 4 = nr u 4 + 1 := by
      show tn ((pokeS u (nr u 4) p s num).2.1 15 4) = _
      rw [e15, tnn (by omega)]
    have eT : Tr (pokeS u (nr u 4) p s num) 4 = Tr u 4 := by unfold Tr; rw [hA2 21 (by decide) (by omega)]
    have eU : Ur (pokeS u (nr u 4) p s num) 4 = Ur u 4 := by unfold Ur; rw [hA2 23 (by decide) (by omega)]
    have eD : Dr (pokeS u (nr u 4) p s num) 4 = Dr u 4 := by unfold Dr; rw [hA2 24 (by decide) (by omega)]
    have eC : Cr (pokeS u (nr u 4) p s num) 4 = Cr u 4 := by unfold Cr; rw [hA2 19 (by decide) (by omega)]
    have hrun : runOK (pokeS u (nr u 4) p s num) 4 := by
      unfold runOK
      rw [en, eT, eU, eD, eC, eL, eP, eH, hA2 21 (by decide) (by omega), hA2 23 (by decide) (by omega), hA2 24 (by decide) (by omega), hA2 19 (by decide) (by omega), hA2 16 (by decide) (by omega)]
      exact ⟨e15, r2, r3, r4, r5, r6, okW_poke r7 l1 qn8 l3 (l2.trans r2) hp l5, r8, r9⟩
    have hrp := (poke_rp r7 l1 l3 (l2.trans r2)).2
    have hlive : (pokeS u (nr u 4) p s num).2.1 28 = (rpm (pokeS u (nr u 4) p s num) 4 (Tr (pokeS u (nr u 4) p s num) 4)).1 := by
      unfold rpm
      rw [en, eT, eL, eP, hrp, l4, l5, l6, tnn (by omega)]
      show (rw_ (ntS u (nr u 4) 2 num (nI p) s) 28 (mput (u.2.1 28) p s num)).2.1 28 = _
      rw [rw_at, c10 q1]
      rfl
    have cIe : cI (Lm (ntS u (nr u 4) 2 num (nI p) s) 4) (nr u 4 + 1) = cI (Lm u 4) (nr u 4) := by
      have hc : ∀ k, k ≤ nr u 4 → cI (Lm (ntS u (nr u 4) 2 num (nI p) s) 4) k = cI (Lm u 4) k := by
        intro k
        induction k with
        | zero => intro _; rfl
        | succ k ih =>
          intro hk
          unfold cI
          rw [ih (by omega), (l1 k (by omega)).2.1]
      show cI (Lm (ntS u (nr u 4) 2 num (nI p) s) 4) (nr u 4) + (if (Lm (ntS u (nr u 4) 2 num (nI p) s) 4).2.1 (nr u 4) = 0 then 1 else 0) = _
      rw [hc _ (Nat.le_refl _), l3, if_neg (by decide)]
      rfl
    refine ⟨core_now h.1 hg ⟨rfl, rfl, rfl, rfl⟩ (fun j h1 h2 => hA2 j (by omega) (by omega)) (hA2 30 (by decide) (by omega)) (fun r _ => by rw [hA2 5 (by decide) (by omega)]) (by rw [hA2 5 (by decide) (by omega)]; exact q1) hrun hlive ⟨c11.1, by rw [en, eL, cIe]; exact c11.2.2 q1⟩, simM_none c1.2.1 rfl ?_ ?_ ?_⟩
    · rw [hlive]; exact rpm_z hrun (Nat.le_refl _)
    · rw [hA2 31 (by decide) (by omega)]; exact h.2.2.2.2.1
    · rw [hA2 37 (by decide) (by omega)]; exact h.2.2.2.2.2
