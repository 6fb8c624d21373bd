/-! the class and the reference: the run that is asked; at, state, look, done, changed -/
def oR (r : Nat) : Nat := if r = 4 then 116 else 151 + 34 * r
theorem oR_4 : oR 4 = 116 := rfl
theorem oR_r {r : Nat} (h : r < 4) : oR r = 151 + 34 * r := if_neg (by omega)
theorem oR_ge {r : Nat} : 116 ≤ oR r := by unfold oR; split <;> omega
theorem oR_rn {r : Nat} (h : r < 5) : isRn (oR r) := by
  rcases (show r = 4 ∨ r < 4 by omega) with rfl | y
  · exact Or.inl rfl
  · rw [oR_r y]; exact rn_room y
section YF
variable {pB : Prop} {F K W : Nat} {uc um uc' um' : rg_U} {x y z v : Int32}
/-- the parts of what holds -/
theorem Rel_run (h : RelC pB uc um) (hm : okM um K W) {r : Nat} (hr : act um K r) : RR pB uc um (oR r) r := by
  obtain ⟨K2, W2, r1, -, -, -, ⟨s1, -⟩, -, -, r8, r9⟩ := h
  have eK : K2 = K := nI_inj (by have := r1.1.1.2.1; omega) (by have := hm.1.1.2.1; omega) (r1.1.1.1.symm.trans hm.1.1.1)
  subst eK
  rcases hr with y | ⟨rfl, y⟩
  · have := hm.1.1.2.1
    rw [oR_r (by omega)]
    exact (r9 r y).1
  · exact r8 y
theorem Rel_num (h : RelC pB uc um) (hm : okM um K W) : (x = -1 → g_X9_numbered F x uc = some (if um.2.1 5 4 = 1 then some 116 else none)) ∧ (¬ x = -1 → (∀ r, r < K → x = nI r → g_X9_numbered F x uc = some (some (oR r))) ∧ ((¬ ∃ r, r < K ∧ x = nI r) → g_X9_numbered F x uc = some none)) := by
  obtain ⟨K2, W2, r1, r2, -, -, ⟨s1, -⟩, r6, -, -, -⟩ := h
  have eK : K2 = K := nI_inj (by have := r1.1.1.2.1; omega) (by have := hm.1.1.2.1; omega) (r1.1.1.1.symm.trans hm.1.1.1)
  subst eK
  have hK := hm.1.1.2.1
  constructor
  · intro q
    unfold g_X9_numbered
    rw [if_pos q]
    rcases now_iff r2 r6 r1.1.2.1.1 with ⟨e7, e5⟩ | ⟨e7, e5⟩
    · rw [e7, om_0, e5, if_neg (by decide)]
    · rw [e7, om_i, ck_t (Or.inl rfl), e5, if_pos rfl]
  · intro q
    refine ⟨fun r hr e => ?_, fun hn => ?_⟩
    · obtain ⟨rm, erm, hrm⟩ := z_room (F := F) (x := x) r2.2
      obtain ⟨k, hk, ek, er⟩ := hrm.1 (by rw [e]; exact inb_nI (by omega) (by decide))
      have : k = r := nI_inj (by omega) (by omega) (ek.symm.trans e)
      subst this
      have hkept : g_X9_isKept F x uc = some 1 := by
        unfold g_X9_isKept
        rw [e, if_neg (nI_pos (by omega)), s1, if_neg (nI_ge hr (by omega)), if_neg (show ¬ (4 : Int32) ≤ nI k from nI_ge (a := k) (b := 4) (by omega) (by decide))]
      unfold g_X9_numbered
      rw [if_neg q, hkept, ob_i, if_neg (by decide), erm, ob_i, er, om_i, ck_t (rn_room hk), oR_r hk]
    · have hkept : g_X9_isKept F x uc = some 0 := by
        unfold g_X9_isKept
        by_cases q1 : x < 0
        · rw [if_pos q1]
        · obtain ⟨k, hk, rfl⟩ := nI_of q1
          rw [if_neg q1, s1, if_pos (nI_le (by
            have : ¬ k < K2 := fun a => hn ⟨k, a, rfl⟩
            omega) hk)]
      unfold g_X9_numbered
      rw [if_neg q, hkept, ob_i, if_pos rfl]
theorem Rel_ask (h : RelC pB uc um) (hm : okM um K W) : (um.2.1 5 (aR um) = 0 ∧ g_X9_numbered F (rF uc 0 8) uc = some none) ∨ (act um K (aR um) ∧ um.2.1 5 (aR um) = 1 ∧ aR um < 5 ∧ g_X9_numbered F (rF uc 0 8) uc = some (some (oR (aR um))) ∧ RR pB uc um (oR (aR um)) (aR um)) := by
  have e8 : rF uc 0 8 = um.1 30 := by
    obtain ⟨K2, W2, r1, -, -, -, ⟨-, s2, -⟩, -⟩ := h
    exact s2
  obtain ⟨n1, n2⟩ := Rel_num (F := F) (x := rF uc 0 8) h hm
  obtain ⟨h5, hr⟩ := aR_ok hm.1
  rcases hm.1.1.2.2 with q | ⟨r, hr', q⟩
  · have eA : aR um = 4 := by unfold aR; rw [if_pos q]
    have := n1 (e8.trans q)
    rw [eA] at hr ⊢
    rcases hr with z | ⟨z, za⟩
    · rw [z, if_neg (by decide)] at this
      exact Or.inl ⟨z, this⟩
    · rw [z, if_pos rfl] at this
      exact Or.inr ⟨za, z, by omega, this, Rel_run h hm za⟩
  · have hK := hm.1.1.2.1
    have eA : aR um = r := by unfold aR; rw [if_neg (by rw [q]; exact nI_m1 (by omega)), q, tnn (by omega)]
    have := (n2 (by rw [e8, q]; exact nI_m1 (by omega))).1 r hr' (e8.trans q)
    rw [eA] at hr ⊢
    rcases hr with z | ⟨z, za⟩
    · have h1 := hm.1.2.1.2.2 r hr'
      rw [h1] at z
      exact absurd z (by decide)
    · exact Or.inr ⟨za, z, by omega, this, Rel_run h hm za⟩
theorem Rel_e (h : RelC pB uc um) (hm : okM um K W) (he : coreEq um um') (hm' : okM um' K W) : RelC pB uc um' := by
  obtain ⟨K2, W2, r1, r2, r3, r4, ⟨s1, s2, s3, s4, s5⟩, r6, r7, r8, r9⟩ := h
  have eK : K2 = K := nI_inj (by have := r1.1.1.2.1; omega) (by have := hm.1.1.2.1; omega) (r1.1.1.1.symm.trans hm.1.1.1)
  have eW : W2 = W := nI_inj (by have := r1.1.2.2.2.2.2.2.1.2.1; omega) (by have := hm.1.2.2.2.2.2.2.1.2.1; omega) (r1.1.2.2.2.2.2.2.1.1.symm.trans hm.1.2.2.2.2.2.2.1.1)
  subst eK eW
  have e5 := he.1 5 (by omega)
  refine ⟨K2, W2, hm', r2, OutR_c r3 rfl rfl rfl rfl (he.1 29 (by omega)) (he.2 34 (by omega)), WR_c r4 rfl rfl (he.1 30 (by omega)), ⟨s1, s2.trans (he.2 _ (by omega)).symm, s3.trans (he.2 _ (by omega)).symm, s4.trans (he.2 _ (by omega)).symm, fun hb => (s5 hb).trans (he.2 _ (by omega)).symm⟩, by rw [e5]; exact r6, fun z k hz hk => by rw [he.1 _ (by omega)]; exact r7 z k hz hk, fun h1 => ?_, Rel_kept r1 r9 (fun _ _ => rfl) (fun _ _ => rfl) (fun r _ => agR_e he)⟩
  rw [e5] at h1
  exact RR_e (r8 h1) (Cr100 r1.1 (Or.inr ⟨rfl, h1⟩)) he
/-- what the class has behind a replay's count -/
abbrev cSc (uc : rg_U) (o : Nat) (x : Int32) : rg_U := sF (sF uc o 12 (rF uc o 12 + x)) 0 13 (rF uc 0 13 + x)
theorem agR_cS {r q : Nat} (hq : q ≠ r) : agR um (cS um r x) q := by
  have hA : ∀ j i, (j ≠ 25 ∨ i ≠ r) → (cS um r x).2.1 j i = um.2.1 j i := fun j i hj => by
    show (rg_R um 25 r (um.2.1 25 r + x)).2.1 j i = _
    rw [R_at, if_neg (by omega)]
  refine ⟨fun j a b k c => hA _ _ (by omega), fun j a b k c => hA _ _ (by omega), fun j a => hA _ _ (by omega), fun j a b k c => hA _ _ (by omega), fun k c => hA _ _ (by omega)⟩
theorem Rel_cS (h : RelC pB uc um) (hm : okM um K W) {r : Nat} (hr : act um K r) : RelC pB (cSc uc (oR r) x) (cS um r x) := by
  have hRR := Rel_run h hm hr
  obtain ⟨K2, W2, r1, r2, r3, r4, ⟨s1, s2, s3, s4, s5⟩, r6, r7, r8, r9⟩ := h
  have eK : K2 = K := nI_inj (by have := r1.1.1.2.1; omega) (by have := hm.1.1.2.1; omega) (r1.1.1.1.symm.trans hm.1.1.1)
  subst eK
  have hK := hm.1.1.2.1
  have hr5 := act5 hK hr
  have ho := oR_ge (r := r)
  have hA : ∀ j, j ≠ 25 → (cS um r x).2.1 j = um.2.1 j := fun j hj => by
    show va_up um.2.1 25 _ j = _
    exact pm_up_n hj
  have hf : ∀ k, k ≠ 35 → (cS um r x).1 k = um.1 k := fun k hk => sF_n (by omega)
  have cf : ∀ k, k ≠ 100 * oR r + 12 → k ≠ 13 → (cSc uc (oR r) x).1 k = uc.1 k := fun k k1 k2 => by rw [sF_n (by omega), sF_n k1]
  have hnew : RR pB (cSc uc (oR r) x) (cS um r x) (oR r) r := RR_cS hRR (by omega)
  have e5 := hA 5 (by omega)
  have hX : okX (cSc uc (oR r) x) := okX_n (okX_n r2 (tn_12 (oR_rn hr5))) (by decide)
  refine ⟨K2, W2, ⟨core_cS r1.1, simM_cS r1.2⟩, hX, OutR_c r3 (cf _ (by omega) (by omega)) (cf _ (by omega) (by omega)) (cf _ (by omega) (by omega)) rfl (hA 29 (by omega)) (hf 34 (by omega)), WR_c r4 (cf _ (by omega) (by omega)) (cf _ (by omega) (by omega)) (hA 30 (by omega)), ⟨(cf _ (by omega) (by omega)).trans s1, (cf _ (by omega) (by omega)).trans (s2.trans (hf _ (by omega)).symm), (cf _ (by omega) (by omega)).trans (s3.trans (hf _ (by omega)).symm), (cf _ (by omega) (by omega)).trans (s4.trans (hf _ (by omega)).symm), ?_⟩, by rw [e5]; exact r6, fun z k hz hk => by rw [hA _ (by omega)]; exact r7 z k hz hk, fun h1 => ?_, fun q hq => ?_⟩
  · intro hb
    rw [sF_y, s5 hb]
    show _ = upd um.1 35 (um.1 35 + x) 35
    rw [pk_us]
  · rw [e5] at h1
    by_cases z : r = 4
    · subst z; exact hnew
    · have e : oR r = 151 + 34 * r := oR_r (by omega)
      exact RR_f (RR_g (r8 h1) (Cr100 r1.1 (Or.inr ⟨rfl, h1⟩)) (agR_cS (by omega))) (fun _ _ _ => rfl) (fun k k1 k2 => cf k (by omega) (by omega))
  · have e22 : (cS um r x).2.1 22 q = um.2.1 22 q := by rw [hA 22 (by omega)]
    have c14 : rF (cSc uc (oR r) x) (151 + 34 * q) 14 = rF uc (151 + 34 * q) 14 := cf _ (by
      intro z
      unfold oR at z
      split at z <;> omega) (by omega)
    rw [e22, c14]
    refine ⟨?_, (r9 q hq).2⟩
    by_cases z : q = r
    · subst z
      rw [← oR_r (show q < 4 by omega)]
      exact hnew
    · refine RR_f (RR_g (r9 q hq).1 (Cr100 r1.1 (Or.inl hq)) (agR_cS z)) (fun _ _ _ => rfl) (fun k k1 k2 => cf k (fun w => ?_) (by omega))
      unfold oR at w
      split at w <;> omega
/-- a place at a time -/
theorem c_read {o r t p : Nat} (hR : RR pB uc um o r) (ht : t ≤ Tr um r) (hp : p < 40) (hT3 : Tr um r ≤ 3000) (hF : 10000 < F) : ∃ n, g_X6_putBy F (o + 12) (nI t) (nI p) uc = some n ∧ g_X6_sortOf F (o + 12) n uc = some ((rpm um r t).1 p) ∧ g_X6_numberOf F (o + 12) n uc = some ((rpm um r t).1 (40 + p)) ∧ g_X6_changesOf F (o + 12) n uc = some ((rpm um r t).1 (80 + p)) ∧ ∀ s v, g_X6_hasValue F (o + 12) n s v uc = some (if (rpm um r t).1 p = s ∧ (rpm um r t).1 (40 + p) = v then 1 else 0) := by
  obtain ⟨N, hS⟩ := hR.2.2.2.2.2.2
  have hP := hS.2.2.2.1
  have hrow := (hS.2.2.2.2 t ht).1 p hp
  dsimp only at hrow
  rw [show o + 13 = o + 12 + 1 from rfl] at hrow
  have hpt : isPt N (lat (uc.2.1 (o + 12 + 2)) p (cP (uc.2.1 (o + 12 + 1)) t N)) := lat_ok (cP_le N)
  refine ⟨_, c_putBy hP hp (by omega) hF, ?_, ?_, ?_, fun s v => ?_⟩
  · rw [x6_sort hP.1 hP.2.1 hpt, hrow.1]
  · rw [x6_number hP.1 hP.2.1 hpt, hrow.2.1]
  · rw [x6_changes hP.1 hP.2.1 hpt, hrow.2.2]
  · rw [x6_value hP.1 hP.2.1 hpt, hrow.1, hrow.2.1]
theorem x7_hasI {o T : Nat} (h9 : rF uc o 9 = nI T) (hT : T ≤ 3000) : (g_X7_hasTime F o x uc = some 0 ∧ ¬ ∃ t, t ≤ T ∧ x = nI t) ∨ ∃ t, t ≤ T ∧ x = nI t ∧ g_X7_hasTime F o x uc = some 1 := by
  by_cases q : ∃ t, t ≤ T ∧ x = nI t
  · obtain ⟨t, ht, rfl⟩ := q
    exact Or.inr ⟨t, ht, rfl, x7_hasT h9 hT ht⟩
  · refine Or.inl ⟨?_, q⟩
    unfold g_X7_hasTime
    by_cases q1 : x < 0
    · rw [if_pos q1]
    · obtain ⟨k, hk, rfl⟩ := nI_of q1
      rw [if_neg q1, h9, if_pos (nI_lt (by
        have : ¬ k ≤ T := fun a => q ⟨k, a, rfl⟩
        omega) hk)]
theorem in2_iff : (¬ x < 0 ∧ x ≤ 2) ↔ ¬ g_X10_isIn x 0 2 = 0 := by
  rw [in_0, Decidable.not_not, Int32.lt_iff_toInt_lt, Int32.le_iff_toInt_le, Int32.le_iff_toInt_le, t_0]
  constructor
  · rintro ⟨a, b⟩; exact ⟨by omega, b⟩
  · rintro ⟨a, b⟩; exact ⟨by omega, b⟩
theorem sr_at (hF : 10000 < F) : SB pB (g_X9_at F x y z) (g_X10_at F x y z) := fun uc um h => by
  obtain ⟨K, W, r1, -⟩ := id h
  have h0 := Rel_zero h
  have m0 : okM (sF um 0 35 0) K W := okM_34 (by omega) r1
  have eA : aR (sF um 0 35 0) = aR um := rfl
  unfold g_X9_at
  rw [lt1_i]
  rcases Rel_ask (F := F) h0 m0 with ⟨e5, en⟩ | ⟨ea, e5, h5, en, hR⟩
  · rw [en, ob_i, om_0]
    rcases m_at (F := F) (x := x) (y := y) (z := z) r1 hF with ⟨-, q, -⟩ | ⟨t, p, u', -, w, -⟩
    · exact ⟨_, _, rfl, q, rfl, h0⟩
    · rw [show um.2.1 5 (aR um) = 0 from e5] at w
      exact absurd w (by decide)
  · have hro := m0.1.2.2.2.2.1 _ ea
    have hT3 := hro.2.2.2.2.2.2.1.1.2.2.2.1
    rw [eA] at *
    obtain ⟨N, hS⟩ := hR.2.2.2.2.2.2
    rw [en, ob_i, om_i, ck_t (oR_rn h5), cl_place]
    have bad : ¬ (isTm um x ∧ ¬ g_X10_isPlace y = 0 ∧ ¬ g_X10_isIn z 0 2 = 0) → ∃ zm, g_X10_at F x y z um = some zm ∧ (-1000001 : Int32) = zm.1 ∧ RelC pB (sF uc 0 13 0) zm.2 := fun hb => by
      rcases m_at (F := F) (x := x) (y := y) (z := z) r1 hF with ⟨-, q, -⟩ | ⟨t, p, u', -, w1, w2, w3, w4, w5, w6, -⟩
      · exact ⟨_, q, rfl, h0⟩
      · exact absurd ⟨⟨w1, t, w2, w3⟩, by rw [w5]; exact in_nI (a := 0) (b := 39) (by omega) (by omega) (by decide), w6⟩ hb
    rcases x7_hasI (F := F) (x := x) hS.1 hT3 with ⟨q1, q2⟩ | ⟨t, ht, rfl, q1⟩
    · rw [q1, ob_i, if_pos rfl]
      obtain ⟨zm, b1, b2, b3⟩ := bad (fun w => q2 w.1.2)
      exact ⟨_, zm, rfl, b1, b2, b3⟩
    · rw [q1, ob_i, if_neg (by decide)]
      by_cases q2 : g_X10_isPlace y = 0
      · rw [if_pos q2]
        obtain ⟨zm, b1, b2, b3⟩ := bad (fun w => w.2.1 q2)
        exact ⟨_, zm, rfl, b1, b2, b3⟩
      · rw [if_neg q2]
        by_cases q3 : g_X10_isIn z 0 2 = 0
        · obtain ⟨zm, b1, b2, b3⟩ := bad (fun w => w.2.2 q3)
          refine ⟨(-1000001, sF uc 0 13 0), zm, ?_, b1, b2, b3⟩
          by_cases q4 : z < 0
          · rw [if_pos q4]
          · rw [if_neg q4, if_neg (fun q5 => in2_iff.mp ⟨q4, q5⟩ q3)]
        · obtain ⟨i1, i2⟩ := in2_iff.mpr q3
          rw [if_neg i1, if_pos i2]
          rcases m_at (F := F) (x := nI t) (y := y) (z := z) r1 hF with ⟨w, -⟩ | ⟨t2, p, u', w0, w1, w2, w3, w4, w5, w6, q, hok, hce⟩
          · exact absurd ⟨⟨e5, t, ht, rfl⟩, q2, q3⟩ w
          · have et : t2 = t := nI_inj (by have : Tr um (aR um) ≤ 3000 := hT3; omega) (by omega) w3.symm
            subst et
            have hrep := c_replay (F := F) (t := t2) hR hro ht oR_ge hF
            have hRel : RelC pB (cSc (sF uc 0 13 0) (oR (aR um)) (nI (costM (sF um 0 35 0) (aR um) t2))) u' := Rel_e (Rel_cS h0 m0 ea) ⟨core_cS m0.1, simM_cS m0.2⟩ hce hok
            have hR2 : RR pB (cSc (sF uc 0 13 0) (oR (aR um)) (nI (costM (sF um 0 35 0) (aR um) t2))) (cS (sF um 0 35 0) (aR um) (nI (costM (sF um 0 35 0) (aR um) t2))) (oR (aR um)) (aR um) := RR_cS hR (by have := oR_ge (r := aR um); omega)
            obtain ⟨n, b1, b2, b3, b4, -⟩ := c_read (F := F) (p := p) hR2 ht w4 hT3 hF
            rw [hrep, ob_i, w5, b1, ob_i]
            have eR : rpm (cS (sF um 0 35 0) (aR um) (nI (costM (sF um 0 35 0) (aR um) t2))) (aR um) t2 = rpm um (aR um) t2 := rpm_cS
            rw [eR] at b2 b3 b4
            rw [w5] at q
            by_cases z0 : z = 0
            · rw [if_pos z0] at q ⊢
              rw [b2, ob_i]
              exact ⟨_, _, rfl, q, rfl, hRel⟩
            · rw [if_neg z0] at q ⊢
              by_cases z1 : z = 1
              · rw [if_pos z1] at q ⊢
                rw [b3, ob_i]
                exact ⟨_, _, rfl, q, rfl, hRel⟩
              · rw [if_neg z1] at q ⊢
                rw [b4, ob_i]
                exact ⟨_, _, rfl, q, rfl, hRel⟩
end YF
