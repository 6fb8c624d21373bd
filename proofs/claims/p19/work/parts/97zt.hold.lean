/-! the class's list of what is held: a time comes -/
section XC
variable {F o U D T : Nat} {H : Nat → Int32} {u : rg_U}
theorem x2_goes {n i k : Nat} (hn : rF u o 1 = nI n) (h64 : n ≤ 64) (hi : i < n) (h3 : rF u o 3 = nI U) (h4 : rF u o 4 = nI D) (ha : u.2.1 (o + 1) i = nI (k * U)) (hU : 0 < U) (hU2 : U ≤ 64) (hD : D ≤ 8) (hk : k * U ≤ 3000) : g_X2_goesAt F o (nI i) u = some (if k = 0 then -1 else nI (gw k D * U)) := by
  have hk3 : k ≤ 3000 := Nat.le_trans (Nat.le_mul_of_pos_right k hU) hk
  unfold g_X2_goesAt
  rw [x2_has_y hn h64 hi, ob_i, if_neg (by decide), ck_t (inb_nI (by omega) (by decide)), rA_nI (by omega), ha, h3, h4]
  by_cases q : k = 0
  · subst q
    rw [Nat.zero_mul, if_pos nI_0, if_pos rfl]
  · have hp : 0 < k * U := Nat.mul_pos (by omega) hU
    have hg := gw_le (k := k) (d := D) (by omega) hk3 hD
    rw [if_neg (nI_ne0 hp (by omega)), if_neg q, if_pos (show (1 : Int32) ≤ nI U from nI_le (a := 1) (by omega) (by omega)), ck_t (inb_nI (by omega) (by decide)), ck_t (nI_ne0 hU (by omega)), pk_div (by omega) hU (by omega), Nat.mul_div_cancel _ hU, c_goesWith (by omega) hk3 hD, pk_mul]
theorem c_dropGoes {t w : Nat} (h : HI u o H U D) (hT : HT H U T) (hT3 : T ≤ 3000) (hU : 0 < U) (hU2 : U ≤ 64) (hD : D ≤ 8) (ht : t = w * U) (ht3 : t ≤ 3000) (hF : 10000 < F) : ∃ v, g_X2_dropWhatGoesBy F o (nI t) u = some v ∧ v.2.2 = u.2.2 ∧ (∀ j, j ≠ o + 1 → v.2.1 j = u.2.1 j) ∧ (∀ k, k ≠ 100 * o + 1 → v.1 k = u.1 k) ∧ ∃ m g, rF v o 1 = nI m ∧ m ≤ 64 ∧ (∀ i, i < m → v.2.1 (o + 1) i = nI (g i * U)) ∧ HL g m (fun k => (k ≤ 3000 ∧ ¬ H k = 0) ∧ (k = 0 ∨ w < gw k D)) := by
  obtain ⟨h3, h4, n, f, hn, h64, ha, hl⟩ := h
  have hf : ∀ i, i < n → f i * U ≤ 3000 := fun i hi => by
    obtain ⟨a, b⟩ := (hl.2 (f i)).mpr ⟨i, hi, rfl⟩
    have := hT _ a b
    omega
  have hkeep : ∀ k, gw k D * U ≤ t ↔ gw k D ≤ w := fun k => by
    rw [ht]
    exact ⟨fun z => Nat.le_of_mul_le_mul_right z hU, fun z => Nat.mul_le_mul_right U z⟩
  have key : Tt (g_X2_dropWhatGoesBy F o (nI t) u) (fun v => v.2.2 = u.2.2 ∧ (∀ j, j ≠ o + 1 → v.2.1 j = u.2.1 j) ∧ (∀ k, k ≠ 100 * o + 1 → v.1 k = u.1 k) ∧ ∃ m g, rF v o 1 = nI m ∧ m ≤ 64 ∧ (∀ i, i < m → v.2.1 (o + 1) i = nI (g i * U)) ∧ HL g m (fun k => ∃ j, j < n ∧ f j = k ∧ (k = 0 ∨ w < gw k D))) := by
    unfold g_X2_dropWhatGoesBy
    refine tt_ob (tt_lp (I := fun s => ∃ (i m : Nat) (g : Nat → Nat), i ≤ n ∧ m ≤ i ∧ s.1 = nI m ∧ s.2.1 = nI i ∧ s.2.2.1 = u.1 ∧ s.2.2.2.2 = u.2.2 ∧ (∀ j, j ≠ o + 1 → s.2.2.2.1 j = u.2.1 j) ∧ (∀ a, a < m → s.2.2.2.1 (o + 1) a = nI (g a * U)) ∧ (∀ a, i ≤ a → s.2.2.2.1 (o + 1) a = u.2.1 (o + 1) a) ∧ HL g m (fun k => ∃ j, j < i ∧ f j = k ∧ (k = 0 ∨ w < gw k D))) (m := fun s => (64 - s.2.1.toInt).toNat) (P := fun r => ∃ (m : Nat) (g : Nat → Nat), m ≤ 64 ∧ r.1 = nI m ∧ r.2.1 = u.1 ∧ r.2.2.2 = u.2.2 ∧ (∀ j, j ≠ o + 1 → r.2.2.1 j = u.2.1 j) ∧ (∀ a, a < m → r.2.2.1 (o + 1) a = nI (g a * U)) ∧ HL g m (fun k => ∃ j, j < n ∧ f j = k ∧ (k = 0 ∨ w < gw k D))) ?_ F _ ?_ ?_) (fun r hr => ?_)
    · rintro ⟨a, b, v⟩ ⟨i, m, g, hi, hm, ea, eb, e1, e2, e3, e4, e5, e6⟩
      dsimp only at ea eb e1 e2 e3 e4 e5 e6 ⊢
      subst ea eb
      have e1' : ∀ s, rF v o s = rF u o s := fun s => by unfold rF; rw [e1]
      unfold g_X2_dropWhatGoesBy_l4
      rw [e1', hn]
      by_cases q : i = n
      · subst q
        rw [if_pos (nI_le (Nat.le_refl _) (by omega))]
        exact tt_r ⟨m, g, by omega, rfl, e1, e2, e3, e4, e6⟩
      · rw [if_neg (nI_ge (by omega) (by omega)), if_neg (show ¬ (64 : Int32) ≤ nI i from nI_ge (a := i) (b := 64) (by omega) (by decide)), x2_goes (k := f i) (by rw [e1', hn]) h64 (by omega) (by rw [e1', h3]) (by rw [e1', h4]) (by rw [e5 i (Nat.le_refl _), ha i (by omega)]) hU hU2 hD (hf i (by omega)), ob_i]
        have hfi := hf i (by omega)
        have hgl : f i = 0 ∨ gw (f i) D ≤ 27000 := by
          rcases Nat.eq_zero_or_pos (f i) with z | z
          · exact Or.inl z
          · exact Or.inr (gw_le z (Nat.le_trans (Nat.le_mul_of_pos_right _ hU) hfi) hD)
        have hms : (64 - (nI i + 1).toInt).toNat < (64 - (nI i).toInt).toNat := by
          exact ms_u (C := 64) (by omega) (by omega)
        have stay : (f i = 0 ∨ w < gw (f i) D) → Tt (g_X2_dropWhatGoesBy_j37 F o (nI t) (nI m) (nI i) v) (PS (fun s' : Int32 × Int32 × rg_U => (∃ (i m : Nat) (g : Nat → Nat), i ≤ n ∧ m ≤ i ∧ s'.1 = nI m ∧ s'.2.1 = nI i ∧ s'.2.2.1 = u.1 ∧ s'.2.2.2.2 = u.2.2 ∧ (∀ j, j ≠ o + 1 → s'.2.2.2.1 j = u.2.1 j) ∧ (∀ a, a < m → s'.2.2.2.1 (o + 1) a = nI (g a * U)) ∧ (∀ a, i ≤ a → s'.2.2.2.1 (o + 1) a = u.2.1 (o + 1) a) ∧ HL g m (fun k => ∃ j, j < i ∧ f j = k ∧ (k = 0 ∨ w < gw k D))) ∧ (64 - s'.2.1.toInt).toNat < (64 - (nI i).toInt).toNat) (fun r : Int32 × rg_U => ∃ (m : Nat) (g : Nat → Nat), m ≤ 64 ∧ r.1 = nI m ∧ r.2.1 = u.1 ∧ r.2.2.2 = u.2.2 ∧ (∀ j, j ≠ o + 1 → r.2.2.1 j = u.2.1 j) ∧ (∀ a, a < m → r.2.2.1 (o + 1) a = nI (g a * U)) ∧ HL g m (fun k => ∃ j, j < n ∧ f j = k ∧ (k = 0 ∨ w < gw k D)))) := by
          intro hst
          unfold g_X2_dropWhatGoesBy_j37 g_X2_dropWhatGoesBy_j52
          rw [ck_t (inb_nI (by omega) (by decide)), ck_t (inb_nI (by omega) (by decide)), lt1_i, rA_nI (by omega), sA_nI (by omega), e5 i (Nat.le_refl _), ha i (by omega)]
          refine tt_l ⟨⟨i + 1, m + 1, fun a => if a = m then f i else g a, by omega, by omega, nI_1 m, nI_1 i, e1, e2, fun j hj => ?_, fun a hA => ?_, fun a hA => ?_, fun a b hab hb => ?_, fun k => ?_⟩, hms⟩
          · show (rg_R v (o + 1) m _).2.1 j = _
            rw [R_n hj]; exact e3 j hj
          · show (rg_R v (o + 1) m _).2.1 (o + 1) a = _
            rw [R_s]
            by_cases z : a = m
            · subst z; rw [pk_us]; dsimp only; rw [if_pos rfl]
            · rw [pk_un z]; dsimp only; rw [if_neg z]; exact e4 a (by omega)
          · show (rg_R v (o + 1) m _).2.1 (o + 1) a = _
            rw [R_s, pk_un (by omega)]; exact e5 a (by omega)
          · dsimp only
            rw [if_neg (by omega)]
            by_cases z : b = m
            · rw [if_pos z]
              obtain ⟨j, hj, ej, -⟩ := (e6.2 (g a)).mpr ⟨a, by omega, rfl⟩
              rw [← ej]
              exact hl.1 j i hj (by omega)
            · rw [if_neg z]; exact e6.1 a b hab (by omega)
          · constructor
            · rintro ⟨j, hj, ej, hk⟩
              rcases Nat.lt_or_ge j i with y | y
              · obtain ⟨a, hA, ea⟩ := (e6.2 k).mp ⟨j, y, ej, hk⟩
                exact ⟨a, by omega, by dsimp only; rw [if_neg (by omega)]; exact ea⟩
              · exact ⟨m, by omega, by dsimp only; rw [if_pos rfl, show i = j by omega]; exact ej⟩
            · rintro ⟨a, hA, ea⟩
              dsimp only at ea
              by_cases z : a = m
              · rw [if_pos z] at ea
                exact ⟨i, by omega, ea, by rw [← ea]; exact hst⟩
              · rw [if_neg z] at ea
                obtain ⟨j, hj, r⟩ := (e6.2 k).mpr ⟨a, by omega, ea⟩
                exact ⟨j, by omega, r⟩
        by_cases z0 : f i = 0
        · rw [if_pos z0, if_pos rfl]
          exact stay (Or.inl z0)
        · have hg27 : gw (f i) D ≤ 27000 := by omega
          have hgU : gw (f i) D * U ≤ 27000 * 64 := Nat.mul_le_mul hg27 hU2
          rw [if_neg z0, if_neg (nI_m1 (by omega))]
          by_cases z1 : gw (f i) D ≤ w
          · rw [if_pos (nI_le ((hkeep _).mpr z1) (by omega))]
            unfold g_X2_dropWhatGoesBy_j52
            refine tt_l ⟨⟨i + 1, m, g, by omega, by omega, rfl, nI_1 i, e1, e2, e3, e4, fun a hA => e5 a (by omega), e6.1, fun k => ?_⟩, hms⟩
            rw [← e6.2 k]
            constructor
            · rintro ⟨j, hj, ej, hk⟩
              rcases Nat.lt_or_ge j i with y | y
              · exact ⟨j, y, ej, hk⟩
              · rw [show j = i by omega] at ej
                rw [← ej] at hk
                omega
            · rintro ⟨j, hj, r⟩
              exact ⟨j, by omega, r⟩
          · rw [if_neg (nI_ge (by have := mt (hkeep (f i)).mp z1; omega) (by omega))]
            exact stay (Or.inr (by omega))
    · exact ms_0 (C := 64) (by omega)
    · exact ⟨0, 0, fun _ => 0, Nat.zero_le _, Nat.le_refl _, rfl, rfl, rfl, rfl, fun _ _ => rfl, fun a hA => by omega, fun _ _ => rfl, fun a b _ hb => by omega, fun k => ⟨fun ⟨j, hj, _⟩ => by omega, fun ⟨j, hj, _⟩ => by omega⟩⟩
    · obtain ⟨m, g, r1, r2, r3, r4, r5, r6, r7⟩ := hr
      rw [lt1_i]
      refine tt_s ⟨r4, r5, fun k hk => ?_, m, g, ?_, r1, r6, r7⟩
      · rw [sF_n hk, r3]
      · rw [sF_y, r2]
  obtain ⟨v, e, v1, v2, v3, m, g, v4, v5, v6, v7⟩ := key
  refine ⟨v, e, v1, v2, v3, m, g, v4, v5, v6, v7.1, fun k => ?_⟩
  rw [← v7.2 k]
  constructor
  · rintro ⟨b1, b2⟩
    obtain ⟨j, hj, ej⟩ := (hl.2 k).mp b1
    exact ⟨j, hj, ej, b2⟩
  · rintro ⟨j, hj, ej, hk⟩
    exact ⟨(hl.2 k).mpr ⟨j, hj, ej⟩, hk⟩
theorem c_comesNo {t : Nat} (h : HI u o H U D) (hU : 0 < U) (hU2 : U ≤ 64) (ht : t ≤ 3000) (hm : ¬ t % U = 0) : g_X2_timeComes F o (nI t) u = some u := by
  have h3 := h.1
  unfold g_X2_timeComes
  rw [h3, if_neg (show ¬ nI U < 1 from nI_nlt (a := U) (b := 1) (by omega) (by omega)), ck_t (nI_ne0 hU (by omega)), show dx_rem (nI t) (nI U) = nI (t % U) from pk_rem (by omega) hU (by omega), if_neg (nI_ne0 (by omega) (by have := Nat.mod_lt t hU; omega))]
/-- a time comes that is held -/
theorem c_comesYes {t w : Nat} (h : HI u o H U D) (hT : HT H U T) (hTt : T < t) (hU : 0 < U) (hU2 : U ≤ 64) (hD1 : 0 < D) (hD : D ≤ 8) (ht : t = w * U) (ht3 : t ≤ 3000) (hc : cH (nH H D w) 3001 ≤ 64) (hF : 10000 < F) : ∃ v, g_X2_timeComes F o (nI t) u = some v ∧ v.2.2 = u.2.2 ∧ (∀ j, j ≠ o + 1 → v.2.1 j = u.2.1 j) ∧ (∀ k, k ≠ 100 * o + 1 → k ≠ 100 * o + 2 → v.1 k = u.1 k) ∧ HI v o (nH H D w) U D ∧ rF v o 2 = imax (rF u o 2) (nI (cH (nH H D w) 3001)) := by
  have h3 := h.1
  have hw : w ≤ 3000 := Nat.le_trans (Nat.le_mul_of_pos_right w hU) (by omega)
  have hlt : ∀ k, k ≤ 3000 → ¬ H k = 0 → k < w := fun k a b => by
    have := hT k a b
    rw [ht] at hTt
    exact Nat.lt_of_mul_lt_mul_right (Nat.lt_of_le_of_lt this hTt)
  obtain ⟨v, e, v1, v2, v3, m, g, v4, v5, v6, v7⟩ := c_dropGoes (F := F) h hT (by omega) hU hU2 hD ht ht3 hF
  have hl2 : HL (fun i => if i = m then w else g i) (m + 1) (fun k => k ≤ 3000 ∧ ¬ nH H D w k = 0) := by
    refine ⟨fun a b hab hb => ?_, fun k => ?_⟩
    · dsimp only
      rw [if_neg (by omega)]
      by_cases z : b = m
      · rw [if_pos z]
        obtain ⟨⟨c1, c2⟩, -⟩ := (v7.2 (g a)).mpr ⟨a, by omega, rfl⟩
        exact hlt _ c1 c2
      · rw [if_neg z]; exact v7.1 a b hab (by omega)
    · unfold nH
      constructor
      · rintro ⟨b1, b2⟩
        by_cases z : k = w
        · exact ⟨m, by omega, by dsimp only; rw [if_pos rfl, z]⟩
        · rw [if_neg z] at b2
          by_cases z2 : (1 ≤ k ∧ k < w) ∧ gw k D ≤ w
          · rw [if_pos z2] at b2; exact absurd rfl b2
          · rw [if_neg z2] at b2
            have := hlt k b1 b2
            obtain ⟨a, hA, ea⟩ := (v7.2 k).mp ⟨⟨b1, b2⟩, by omega⟩
            exact ⟨a, by omega, by dsimp only; rw [if_neg (by omega)]; exact ea⟩
      · rintro ⟨a, hA, ea⟩
        dsimp only at ea
        by_cases z : a = m
        · rw [if_pos z] at ea
          exact ⟨by omega, by rw [if_pos ea.symm]; decide⟩
        · rw [if_neg z] at ea
          obtain ⟨⟨b1, b2⟩, b3⟩ := (v7.2 k).mpr ⟨a, by omega, ea⟩
          have := hlt k b1 b2
          exact ⟨b1, by rw [if_neg (by omega), if_neg (by omega)]; exact b2⟩
  have hcn := HL_count hl2
  have hm : m < 64 := by omega
  have hrem : t % U = 0 := by rw [ht]; exact Nat.mul_mod_left w U
  unfold g_X2_timeComes g_X2_timeComes_j59
  rw [h3, if_neg (show ¬ nI U < 1 from nI_nlt (a := U) (b := 1) (by omega) (by omega)), ck_t (nI_ne0 hU (by omega)), show dx_rem (nI t) (nI U) = nI (t % U) from pk_rem (by omega) hU (by omega), hrem, if_pos nI_0, e, ob_i, v4, if_neg (nI_pos (by omega)), if_neg (show ¬ (64 : Int32) ≤ nI m from nI_ge (a := m) (b := 64) hm (by decide)), ck_t (inb_nI hm (by decide)), lt1_i, lt1_i, lt1_i, sA_nI (by omega)]
  have e4 : rF (rg_R v (o + 1) m (nI t)) o 1 = nI m := v4
  rw [e4, nI_1]
  refine ⟨_, rfl, v1, fun j hj => ?_, fun k k1 k2 => ?_, ⟨?_, ?_, m + 1, fun i => if i = m then w else g i, ?_, by omega, fun i hi => ?_, hl2⟩, ?_⟩
  · rw [sF_A, sF_A, R_n hj]; exact v2 j hj
  · rw [sF_n k2, sF_n k1]; exact v3 k k1
  · show (sF (sF (rg_R v (o + 1) m (nI t)) o 1 (nI (m + 1))) o 2 _).1 (100 * o + 3) = _
    rw [sF_n (by omega), sF_n (by omega)]
    exact (v3 _ (by omega)).trans h3
  · show (sF (sF (rg_R v (o + 1) m (nI t)) o 1 (nI (m + 1))) o 2 _).1 (100 * o + 4) = _
    rw [sF_n (by omega), sF_n (by omega)]
    exact (v3 _ (by omega)).trans h.2.1
  · show (sF (sF (rg_R v (o + 1) m (nI t)) o 1 (nI (m + 1))) o 2 _).1 (100 * o + 1) = _
    rw [sF_n (by omega)]
    exact sF_y
  · rw [sF_A, sF_A, R_s]
    by_cases z : i = m
    · subst z; rw [pk_us]; dsimp only; rw [if_pos rfl, ht]
    · rw [pk_un z]; dsimp only; rw [if_neg z]; exact v6 i (by omega)
  · rw [sF_y]
    have e1 : rF (sF (rg_R v (o + 1) m (nI t)) o 1 (nI (m + 1))) o 1 = nI (m + 1) := sF_y
    have e2 : rF (sF (rg_R v (o + 1) m (nI t)) o 1 (nI (m + 1))) o 2 = rF u o 2 := by
      show (sF (rg_R v (o + 1) m (nI t)) o 1 (nI (m + 1))).1 (100 * o + 2) = _
      rw [sF_n (by omega)]
      exact v3 _ (by omega)
    rw [e1, e2, hcn]
end XC
