/-! parts of the reference -/
theorem m_there {F K W : Nat} {x : Int32} {u : rg_U} (h : coreM u K W) : (g_X10_isThere F x u = some 0 ∧ ¬ ∃ r, act u K r ∧ x = (if r = 4 then -1 else nI r)) ∨ ∃ r, g_X10_isThere F x u = some 1 ∧ act u K r ∧ x = (if r = 4 then -1 else nI r) := by
  have hK := h.1.2.1
  have h4 := h.2.1.1
  unfold g_X10_isThere
  rw [show rF u 0 29 = nI K from h.1.1, show rA u 5 4 = u.2.1 5 4 from rfl, ck_t (show inb 4 5 by decide), ck_t (show g_X10_isIn x 0 (nI K - 1) = 0 ∨ g_X10_isIn x 0 (nI K - 1) = 1 from in_b)]
  by_cases x1 : x = -1
  · rw [if_pos x1, ck_t h4]
    rcases h4 with q | q
    · refine Or.inl ⟨by rw [q], fun ⟨r, hr, hx⟩ => ?_⟩
      rcases hr with z | z
      · rw [if_neg (by omega), x1] at hx
        exact nI_m1 (by omega) hx.symm
      · rw [q] at z
        exact absurd z.2 (by decide)
    · exact Or.inr ⟨4, by rw [q], Or.inr ⟨rfl, q⟩, by rw [if_pos rfl]; exact x1⟩
  · rw [if_neg x1]
    by_cases z : g_X10_isIn x 0 (nI K - 1) = 0
    · refine Or.inl ⟨by rw [z], fun ⟨r, hr, hx⟩ => ?_⟩
      have hr4 : ¬ r = 4 := fun q => x1 (by rw [hx, if_pos q])
      rw [if_neg hr4] at hx
      rcases hr with y | y
      · rw [hx, show nI K - 1 = nI (K - 1) from nI_sub (a := K) (b := 1) (by omega)] at z
        exact in_nI (a := 0) (by omega) (show r ≤ K - 1 by omega) (by omega) z
      · exact hr4 y.1
    · obtain ⟨r, hr, e⟩ := in_bel z (by omega)
      exact Or.inr ⟨r, by rw [in_b.resolve_left z], Or.inl hr, by rw [if_neg (by omega)]; exact e⟩
def swp (u : rg_U) : rg_U := (upd (upd (upd (upd u.1 53 (u.1 41)) 41 (u.1 53)) 54 (u.1 42)) 42 (u.1 54), va_up (va_up u.2.1 31 (u.2.1 37)) 37 (u.2.1 31), u.2.2)
theorem m_swaps {F : Nat} {u : rg_U} (h1 : ∀ i, 134 ≤ i → u.2.1 31 i = 0) (h2 : ∀ i, 134 ≤ i → u.2.1 37 i = 0) (hF : 10000 < F) : g_X10_swaps F u = some (swp u) := by
  obtain ⟨v, e, v1, v2, v3⟩ := lp_ex (body := fun (s : Int32 × rg_U) => g_X10_swaps_l2 F s.1 s.2) (P := fun k s => ∃ m, k + m = 134 ∧ s.1 = nI m ∧ s.2.1 = u.1 ∧ s.2.2.2 = u.2.2 ∧ ∀ j i, s.2.2.1 j i = if j = 31 ∧ i < m then u.2.1 37 i else if j = 37 ∧ i < m then u.2.1 31 i else u.2.1 j i) (R := fun v => v.1 = u.1 ∧ v.2.2 = u.2.2 ∧ ∀ j i, v.2.1 j i = if j = 31 ∧ i < 134 then u.2.1 37 i else if j = 37 ∧ i < 134 then u.2.1 31 i else u.2.1 j i) (by
    rintro k ⟨s1, s2⟩ ⟨m, hm, e1, e2, e3, hv⟩
    dsimp only at e1 e2 e3 hv
    subst e1
    unfold g_X10_swaps_l2
    dsimp only
    by_cases q : m = 134
    · right
      subst q
      exact ⟨s2, if_pos (by decide), e2, e3, hv⟩
    · left
      rw [if_neg (show ¬ (134 : Int32) ≤ nI m from nI_ge (a := m) (b := 134) (by omega) (by decide)), ck_t (inb_nI (by omega) (by decide)), ck_t (inb_nI (by omega) (by decide)), ck_t (inb_nI (by omega) (by decide)), lt1_i, ck_t (inb_nI (by omega) (by decide)), lt1_i, sA_nI (by omega), sA_nI (by omega), rA_nI (by omega), rA_nI (by omega), nI_1]
      refine ⟨_, k - 1, rfl, by omega, m + 1, by omega, rfl, e2, e3, fun j i => ?_⟩
      dsimp only
      rw [R_at, R_at, hv j i, hv 37 m, hv 31 m, if_neg (show ¬ (37 = 31 ∧ m < m) by omega), if_neg (show ¬ (37 = 37 ∧ m < m) by omega), if_neg (show ¬ (31 = 31 ∧ m < m) by omega), if_neg (show ¬ (31 = 37 ∧ m < m) by omega)]
      by_cases z : i = m
      · subst z
        by_cases y : j = 31
        · subst y
          rw [if_pos ⟨rfl, rfl⟩, if_pos ⟨rfl, by omega⟩]
        · have n1 : ∀ P : Prop, ¬ (j = 31 ∧ P) := fun P q => y q.1
          by_cases x : j = 37
          · rw [if_neg (n1 (i = i)), if_pos ⟨x, rfl⟩, if_neg (n1 (i < i + 1)), if_pos ⟨x, by omega⟩]
          · have n2 : ∀ P : Prop, ¬ (j = 37 ∧ P) := fun P q => x q.1
            rw [if_neg (n1 (i = i)), if_neg (n2 (i = i)), if_neg (n1 (i < i)), if_neg (n2 (i < i)), if_neg (n1 (i < i + 1)), if_neg (n2 (i < i + 1))]
      · rw [if_neg (fun q => z q.2), if_neg (fun q => z q.2)]
        by_cases y : j = 31 ∧ i < m
        · rw [if_pos y, if_pos ⟨y.1, by omega⟩]
        · rw [if_neg y, if_neg (show ¬ (j = 31 ∧ i < m + 1) by omega)]
          by_cases x : j = 37 ∧ i < m
          · rw [if_pos x, if_pos ⟨x.1, by omega⟩]
          · rw [if_neg x, if_neg (show ¬ (j = 37 ∧ i < m + 1) by omega)]) F 134 ((0 : Int32), u) (by omega) ⟨0, rfl, rfl, rfl, rfl, fun j i => by rw [if_neg (by omega), if_neg (by omega)]⟩
  unfold g_X10_swaps
  rw [e, ob_i, lt1_i, lt1_i, lt1_i, lt1_i]
  have hv : v = (u.1, va_up (va_up u.2.1 31 (u.2.1 37)) 37 (u.2.1 31), u.2.2) := by
    refine Prod.ext v1 (Prod.ext ?_ v2)
    funext j i
    show v.2.1 j i = va_up (va_up u.2.1 31 (u.2.1 37)) 37 (u.2.1 31) j i
    rw [v3]
    by_cases y : j = 31
    · subst y
      rw [pm_up_n (by decide), pm_up_s]
      by_cases z : i < 134
      · rw [if_pos ⟨rfl, z⟩]
      · rw [if_neg (fun q => z q.2), if_neg (by omega), h1 i (by omega), h2 i (by omega)]
    · rw [if_neg (fun q => y q.1)]
      by_cases x : j = 37
      · subst x
        rw [pm_up_s]
        by_cases z : i < 134
        · rw [if_pos ⟨rfl, z⟩]
        · rw [if_neg (fun q => z q.2), h1 i (by omega), h2 i (by omega)]
      · rw [if_neg (fun q => x q.1), pm_up_n x, pm_up_n y]
  rw [hv]
  rfl
theorem swp_c {u v : rg_U} (h : coreEq u v) : coreEq u (swp v) := by
  refine ⟨fun j hj => ?_, fun k hk => ?_⟩
  · show va_up (va_up v.2.1 31 (v.2.1 37)) 37 (v.2.1 31) j = _
    rw [pm_up_n (by omega), pm_up_n (by omega), h.1 j hj]
  · show upd (upd (upd (upd v.1 53 (v.1 41)) 41 (v.1 53)) 54 (v.1 42)) 42 (v.1 54) k = _
    rw [pk_un (by omega), pk_un (by omega), pk_un (by omega), pk_un (by omega), h.2 k hk]
theorem swp_a {v : rg_U} : (swp v).2.1 31 = v.2.1 37 ∧ (swp v).2.1 37 = v.2.1 31 ∧ (swp v).1 41 = v.1 53 ∧ (swp v).1 42 = v.1 54 ∧ (swp v).1 53 = v.1 41 ∧ (swp v).1 54 = v.1 42 := by
  refine ⟨?_, ?_, rfl, rfl, rfl, rfl⟩
  · show va_up (va_up v.2.1 31 (v.2.1 37)) 37 (v.2.1 31) 31 = _
    rw [pm_up_n (by decide), pm_up_s]
  · show va_up (va_up v.2.1 31 (v.2.1 37)) 37 (v.2.1 31) 37 = _
    rw [pm_up_s]
theorem lp_all {body : Int32 → Option (Int32 ⊕ (Unit ⊕ Unit))} {Q : Nat → Prop} {n : Nat} (hb : ∀ k, k < n → (Q k → body (nI k) = some (.inl (nI (k + 1)))) ∧ (¬ Q k → body (nI k) = some (.inr (.inl ())))) (he : body (nI n) = some (.inr (.inr ()))) : ∀ f G k, k + f = n → f < G → ((∀ i, k ≤ i → i < n → Q i) ∧ lp body G (nI k) = some (.inr ())) ∨ (¬ (∀ i, k ≤ i → i < n → Q i)) ∧ lp body G (nI k) = some (.inl ())
  | f, 0, k, hk, hG => by omega
  | 0, G + 1, k, hk, hG => by
    have e : k = n := by omega
    subst e
    exact Or.inl ⟨fun i h1 h2 => by omega, lp_r he⟩
  | f + 1, G + 1, k, hk, hG => by
    by_cases q : Q k
    · rw [lp_l ((hb k (by omega)).1 q)]
      refine (lp_all hb he f G (k + 1) (by omega) (by omega)).imp (fun z => ⟨fun i h1 h2 => ?_, z.2⟩) (fun z => ⟨fun y => z.1 (fun i h1 h2 => y i (by omega) h2), z.2⟩)
      rcases Nat.lt_or_ge k i with y | y
      · exact z.1 i y h2
      · rw [show i = k by omega]; exact q
    · exact Or.inr ⟨fun z => q (z k (Nat.le_refl _) (by omega)), lp_r ((hb k (by omega)).2 q)⟩
/-- two rows are alike as states -/
def sLk (m m' : Row) : Prop := (∀ i, i < 80 → m' i = m i) ∧ m' 120 = m 120 ∧ m' 121 = m 121 ∧ ∀ i, i < tn (m 121) → m' (122 + i) = m (122 + i)
theorem m_like {F d : Nat} {u : rg_U} (hd : u.2.1 31 121 = nI d) (hd8 : d ≤ 8) (hF : 10000 < F) : (g_X10_areStatesLike F u = some 1 ∧ sLk (u.2.1 31) (u.2.1 37)) ∨ (g_X10_areStatesLike F u = some 0 ∧ ¬ sLk (u.2.1 31) (u.2.1 37)) := by
  have h1 := lp_all (body := fun (s : Int32) => g_X10_areStatesLike_l2 F u s) (Q := fun i => u.2.1 37 i = u.2.1 31 i) (n := 80) (fun k hk => by
    unfold g_X10_areStatesLike_l2
    rw [if_neg (show ¬ (80 : Int32) ≤ nI k from nI_ge (a := k) (b := 80) (by omega) (by decide)), ck_t (inb_nI (by omega) (by decide)), ck_t (inb_nI (by omega) (by decide)), rA_nI (by omega), rA_nI (by omega), nI_1]
    exact ⟨fun q => if_pos q, fun q => if_neg q⟩) (by
    unfold g_X10_areStatesLike_l2
    exact if_pos (by decide)) 80 F 0 (by omega) (by omega)
  have h2 := lp_all (body := fun (s : Int32) => g_X10_areStatesLike_l69 F u s) (Q := fun i => u.2.1 37 (122 + i) = u.2.1 31 (122 + i)) (n := d) (fun k hk => by
    unfold g_X10_areStatesLike_l69
    rw [ck_t (show inb 121 134 by decide), show rA u 31 121 = nI d from hd, if_neg (nI_ge hk (by omega)), show (122 : Int32) + nI k = nI (122 + k) from nI_add 122 k, ck_t (inb_nI (by omega) (by decide)), ck_t (inb_nI (by omega) (by decide)), rA_nI (by omega), rA_nI (by omega), nI_1]
    exact ⟨fun q => if_pos q, fun q => if_neg q⟩) (by
    unfold g_X10_areStatesLike_l69
    rw [ck_t (show inb 121 134 by decide), show rA u 31 121 = nI d from hd]
    exact if_pos (nI_le (Nat.le_refl _) (by omega))) d F 0 (by omega) (by omega)
  unfold g_X10_areStatesLike sLk
  rw [hd, tnn (by omega)]
  rcases h1 with ⟨a1, a2⟩ | ⟨a1, a2⟩
  · rw [show lp (fun (s : Int32) => g_X10_areStatesLike_l2 F u s) F (0 : Int32) = some (.inr ()) from a2, ob_i]
    show (ck (inb 120 134) _ = _ ∧ _) ∨ (ck (inb 120 134) _ = _ ∧ _)
    rw [ck_t (show inb 120 134 by decide), ck_t (show inb 120 134 by decide), ck_t (show inb 121 134 by decide), ck_t (show inb 121 134 by decide), show rA u 37 120 = u.2.1 37 120 from rfl, show rA u 31 120 = u.2.1 31 120 from rfl, show rA u 37 121 = u.2.1 37 121 from rfl, show rA u 31 121 = nI d from hd]
    by_cases q : u.2.1 37 120 = u.2.1 31 120
    · rw [if_pos q]
      by_cases p : u.2.1 37 121 = nI d
      · rw [if_pos p]
        rcases h2 with ⟨b1, b2⟩ | ⟨b1, b2⟩
        · rw [show lp (fun (s : Int32) => g_X10_areStatesLike_l69 F u s) F (0 : Int32) = some (.inr ()) from b2, ob_i]
          exact Or.inl ⟨rfl, fun i hi => a1 i (Nat.zero_le _) hi, q, p, fun i hi => b1 i (Nat.zero_le _) hi⟩
        · rw [show lp (fun (s : Int32) => g_X10_areStatesLike_l69 F u s) F (0 : Int32) = some (.inl ()) from b2, ob_i]
          exact Or.inr ⟨rfl, fun z => b1 (fun i _ hi => z.2.2.2 i hi)⟩
      · rw [if_neg p]
        exact Or.inr ⟨rfl, fun z => p z.2.2.1⟩
    · rw [if_neg q]
      exact Or.inr ⟨rfl, fun z => q z.2.1⟩
  · rw [show lp (fun (s : Int32) => g_X10_areStatesLike_l2 F u s) F (0 : Int32) = some (.inl ()) from a2, ob_i]
    exact Or.inr ⟨rfl, fun z => a1 (fun i _ hi => z.1 i hi)⟩
