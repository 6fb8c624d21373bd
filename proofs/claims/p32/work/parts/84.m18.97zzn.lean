section W_79
-- 97zzn.read
/-! the class and the reference: the run that is asked; at, state, look, done, changed -/
def oR (r : Nat) : Nat := if r = 4 then 116 else 151 + 34 * r
theorem oR_4 : oR 4 = 116 := rfl
theorem oR_r {r : Nat} (h : r < 4) : oR r = 151 + 34 * r := if_neg (by omega)
theorem oR_ge {r : Nat} : 116 ≤ oR r := by unfold oR; split <;> omega
theorem oR_rn {r : Nat} (h : r < 5) : isRn (oR r) := by
  rcases (show r = 4 ∨ r < 4 by omega) with rfl | y
  · exact Or.inl rfl
  · rw [oR_r y]; exact rn_room y
section YF
variable {pB : Prop} {F K W : Nat} {uc um uc' um' : rg_U} {x y z v : Int32}
/-- the parts of what holds -/
theorem Rel_run (h : RelC pB uc um) (hm : okM um K W) {r : Nat} (hr : act um K r) : RR pB uc um (oR r) r := by
  obtain ⟨K2, W2, r1, -, -, -, ⟨s1, -⟩, -, -, r8, r9⟩ := h
  have eK : K2 = K := nI_inj (by have := r1.1.1.2.1; omega) (by have := hm.1.1.2.1; omega) (r1.1.1.1.symm.trans hm.1.1.1)
  subst eK
  rcases hr with y | ⟨rfl, y⟩
  · have := hm.1.1.2.1
    rw [oR_r (by omega)]
    exact (r9 r y).1
  · exact r8 y
theorem Rel_num (h : RelC pB uc um) (hm : okM um K W) : (x = -1 → g_X9_numbered F x uc = some (if um.2.1 5 4 = 1 then some 116 else none)) ∧ (¬ x = -1 → (∀ r, r < K → x = nI r → g_X9_numbered F x uc = some (some (oR r))) ∧ ((¬ ∃ r, r < K ∧ x = nI r) → g_X9_numbered F x uc = some none)) := by
  obtain ⟨K2, W2, r1, r2, -, -, ⟨s1, -⟩, r6, -, -, -⟩ := h
  have eK : K2 = K := nI_inj (by have := r1.1.1.2.1; omega) (by have := hm.1.1.2.1; omega) (r1.1.1.1.symm.trans hm.1.1.1)
  subst eK
  have hK := hm.1.1.2.1
  constructor
  · intro q
    unfold g_X9_numbered
    rw [if_pos q]
    rcases now_iff r2 r6 r1.1.2.1.1 with ⟨e7, e5⟩ | ⟨e7, e5⟩
    · rw [e7, om_0, e5, if_neg (by decide)]
    · rw [e7, om_i, ck_t (Or.inl rfl), e5, if_pos rfl]
  · intro q
    refine ⟨fun r hr e => ?_, fun hn => ?_⟩
    · obtain ⟨rm, erm, hrm⟩ := z_room (F := F) (x := x) r2.2
      obtain ⟨k, hk, ek, er⟩ := hrm.1 (by rw [e]; exact inb_nI (by omega) (by decide))
      have : k = r := nI_inj (by omega) (by omega) (ek.symm.trans e)
      subst this
      have hkept : g_X9_isKept F x uc = some 1 := by
        unfold g_X9_isKept
        rw [e, if_neg (nI_pos (by omega)), s1, if_neg (nI_ge hr (by omega)), if_neg (show ¬ (4 : Int32) ≤ nI k from nI_ge (a := k) (b := 4) (by omega) (by decide))]
      unfold g_X9_numbered
      rw [if_neg q, hkept, ob_i, if_neg (by decide), erm, ob_i, er, om_i, ck_t (rn_room hk), oR_r hk]
    · have hkept : g_X9_isKept F x uc = some 0 := by
        unfold g_X9_isKept
        by_cases q1 : x < 0
        · rw [if_pos q1]
        · obtain ⟨k, hk, rfl⟩ := nI_of q1
          rw [if_neg q1, s1, if_pos (nI_le (by
            have : ¬ k < K2 := fun a => hn ⟨k, a, rfl⟩
            omega) hk)]
      unfold g_X9_numbered
      rw [if_neg q, hkept, ob_i, if_pos rfl]
theorem Rel_ask (h : RelC pB uc um) (hm : okM um K W) : (um.2.1 5 (aR um) = 0 ∧ g_X9_numbered F (rF uc 0 8) uc = some none) ∨ (act um K (aR um) ∧ um.2.1 5 (aR um) = 1 ∧ aR um < 5 ∧ g_X9_numbered F (rF uc 0 8) uc = some (some (oR (aR um))) ∧ RR pB uc um (oR (aR um)) (aR um)) := by
  have e8 : rF uc 0 8 = um.1 30 := by
    obtain ⟨K2, W2, r1, -, -, -, ⟨-, s2, -⟩, -⟩ := h
    exact s2
  obtain ⟨n1, n2⟩ := Rel_num (F := F) (x := rF uc 0 8) h hm
  obtain ⟨h5, hr⟩ := aR_ok hm.1
  rcases hm.1.1.2.2 with q | ⟨r, hr', q⟩
  · have eA : aR um = 4 := by unfold aR; rw [if_pos q]
    have := n1 (e8.trans q)
    rw [eA] at hr ⊢
    rcases hr with z | ⟨z, za⟩
    · rw [z, if_neg (by decide)] at this
      exact Or.inl ⟨z, this⟩
    · rw [z, if_pos rfl] at this
      exact Or.inr ⟨za, z, by omega, this, Rel_run h hm za⟩
  · have hK := hm.1.1.2.1
    have eA : aR um = r := by unfold aR; rw [if_neg (by rw [q]; exact nI_m1 (by omega)), q, tnn (by omega)]
    have := (n2 (by rw [e8, q]; exact nI_m1 (by omega))).1 r hr' (e8.trans q)
    rw [eA] at hr ⊢
    rcases hr with z | ⟨z, za⟩
    · have h1 := hm.1.2.1.2.2 r hr'
      rw [h1] at z
      exact absurd z (by decide)
    · exact Or.inr ⟨za, z, by omega, this, Rel_run h hm za⟩
theorem Rel_e (h : RelC pB uc um) (hm : okM um K W) (he : coreEq um um') (hm' : okM um' K W) : RelC pB uc um' := by
  obtain ⟨K2, W2, r1, r2, r3, r4, ⟨s1, s2, s3, s4, s5⟩, r6, r7, r8, r9⟩ := h
  have eK : K2 = K := nI_inj (by have := r1.1.1.2.1; omega) (by have := hm.1.1.2.1; omega) (r1.1.1.1.symm.trans hm.1.1.1)
  have eW : W2 = W := nI_inj (by have := r1.1.2.2.2.2.2.2.1.2.1; omega) (by have := hm.1.2.2.2.2.2.2.1.2.1; omega) (r1.1.2.2.2.2.2.2.1.1.symm.trans hm.1.2.2.2.2.2.2.1.1)
  subst eK eW
  have e5 := he.1 5 (by omega)
  refine ⟨K2, W2, hm', r2, OutR_c r3 rfl rfl rfl rfl (he.1 29 (by omega)) (he.2 34 (by omega)), WR_c r4 rfl rfl (he.1 30 (by omega)), ⟨s1, s2.trans (he.2 _ (by omega)).symm, s3.trans (he.2 _ (by omega)).symm, s4.trans (he.2 _ (by omega)).symm, fun hb => (s5 hb).trans (he.2 _ (by omega)).symm⟩, by rw [e5]; exact r6, fun z k hz hk => by rw [he.1 _ (by omega)]; exact r7 z k hz hk, fun h1 => ?_, Rel_kept r1 r9 (fun _ _ => rfl) (fun _ _ => rfl) (fun r _ => agR_e he)⟩
  rw [e5] at h1
  exact RR_e (r8 h1) (Cr100 r1.1 (Or.inr ⟨rfl, h1⟩)) he
/-- what the class has behind a replay's count -/
abbrev cSc (uc : rg_U) (o : Nat) (x : Int32) : rg_U := sF (sF uc o 12 (rF uc o 12 + x)) 0 13 (rF uc 0 13 + x)
theorem agR_cS {r q : Nat} (hq : q ≠ r) : agR um (cS um r x) q := by
  have hA : ∀ j i, (j ≠ 25 ∨ i ≠ r) → (cS um r x).2.1 j i = um.2.1 j i := fun j i hj => by
    show (rg_R um 25 r (um.2.1 25 r + x)).2.1 j i = _
    rw [R_at, if_neg (by omega)]
  refine ⟨fun j a b k c => hA _ _ (by omega), fun j a b k c => hA _ _ (by omega), fun j a => hA _ _ (by omega), fun j a b k c => hA _ _ (by omega), fun k c => hA _ _ (by omega)⟩
theorem Rel_cS (h : RelC pB uc um) (hm : okM um K W) {r : Nat} (hr : act um K r) : RelC pB (cSc uc (oR r) x) (cS um r x) := by
  have hRR := Rel_run h hm hr
  obtain ⟨K2, W2, r1, r2, r3, r4, ⟨s1, s2, s3, s4, s5⟩, r6, r7, r8, r9⟩ := h
  have eK : K2 = K := nI_inj (by have := r1.1.1.2.1; omega) (by have := hm.1.1.2.1; omega) (r1.1.1.1.symm.trans hm.1.1.1)
  subst eK
  have hK := hm.1.1.2.1
  have hr5 := act5 hK hr
  have ho := oR_ge (r := r)
  have hA : ∀ j, j ≠ 25 → (cS um r x).2.1 j = um.2.1 j := fun j hj => by
    show va_up um.2.1 25 _ j = _
    exact pm_up_n hj
  have hf : ∀ k, k ≠ 35 → (cS um r x).1 k = um.1 k := fun k hk => sF_n (by omega)
  have cf : ∀ k, k ≠ 100 * oR r + 12 → k ≠ 13 → (cSc uc (oR r) x).1 k = uc.1 k := fun k k1 k2 => by rw [sF_n (by omega), sF_n k1]
  have hnew : RR pB (cSc uc (oR r) x) (cS um r x) (oR r) r := RR_cS hRR (by omega)
  have e5 := hA 5 (by omega)
  have hX : okX (cSc uc (oR r) x) := okX_n (okX_n r2 (tn_12 (oR_rn hr5))) (by decide)
  refine ⟨K2, W2, ⟨core_cS r1.1, simM_cS r1.2⟩, hX, OutR_c r3 (cf _ (by omega) (by omega)) (cf _ (by omega) (by omega)) (cf _ (by omega) (by omega)) rfl (hA 29 (by omega)) (hf 34 (by omega)), WR_c r4 (cf _ (by omega) (by omega)) (cf _ (by omega) (by omega)) (hA 30 (by omega)), ⟨(cf _ (by omega) (by omega)).trans s1, (cf _ (by omega) (by omega)).trans (s2.trans (hf _ (by omega)).symm), (cf _ (by omega) (by omega)).trans (s3.trans (hf _ (by omega)).symm), (cf _ (by omega) (by omega)).trans (s4.trans (hf _ (by omega)).symm), ?_⟩, by rw [e5]; exact r6, fun z k hz hk => by rw [hA _ (by omega)]; exact r7 z k hz hk, fun h1 => ?_, fun q hq => ?_⟩
  · intro hb
    rw [sF_y, s5 hb]
    show _ = upd um.1 35 (um.1 35 + x) 35
    rw [pk_us]
  · rw [e5] at h1
    by_cases z : r = 4
    · subst z; exact hnew
    · have e : oR r = 151 + 34 * r := oR_r (by omega)
      exact RR_f (RR_g (r8 h1) (Cr100 r1.1 (Or.inr ⟨rfl, h1⟩)) (agR_cS (by omega))) (fun _ _ _ => rfl) (fun k k1 k2 => cf k (by omega) (by omega))
  · have e22 : (cS um r x).2.1 22 q = um.2.1 22 q := by rw [hA 22 (by omega)]
    have c14 : rF (cSc uc (oR r) x) (151 + 34 * q) 14 = rF uc (151 + 34 * q) 14 := cf _ (by
      intro z
      unfold oR at z
      split at z <;> omega) (by omega)
    rw [e22, c14]
    refine ⟨?_, (r9 q hq).2⟩
    by_cases z : q = r
    · subst z
      rw [← oR_r (show q < 4 by omega)]
      exact hnew
    · refine RR_f (RR_g (r9 q hq).1 (Cr100 r1.1 (Or.inl hq)) (agR_cS z)) (fun _ _ _ => rfl) (fun k k1 k2 => cf k (fun w => ?_) (by omega))
      unfold oR at w
      split at w <;> omega
/-- a place at a time -/
theorem c_read {o r t p : Nat} (hR : RR pB uc um o r) (ht : t ≤ Tr um r) (hp : p < 40) (hT3 : Tr um r ≤ 3000) (hF : 10000 < F) : ∃ n, g_X6_putBy F (o + 12) (nI t) (nI p) uc = some n ∧ g_X6_sortOf F (o + 12) n uc = some ((rpm um r t).1 p) ∧ g_X6_numberOf F (o + 12) n uc = some ((rpm um r t).1 (40 + p)) ∧ g_X6_changesOf F (o + 12) n uc = some ((rpm um r t).1 (80 + p)) ∧ ∀ s v, g_X6_hasValue F (o + 12) n s v uc = some (if (rpm um r t).1 p = s ∧ (rpm um r t).1 (40 + p) = v then 1 else 0) := by
  obtain ⟨N, hS⟩ := hR.2.2.2.2.2.2
  have hP := hS.2.2.2.1
  have hrow := (hS.2.2.2.2 t ht).1 p hp
  dsimp only at hrow
  rw [show o + 13 = o + 12 + 1 from rfl] at hrow
  have hpt : isPt N (lat (uc.2.1 (o + 12 + 2)) p (cP (uc.2.1 (o + 12 + 1)) t N)) := lat_ok (cP_le N)
  refine ⟨_, c_putBy hP hp (by omega) hF, ?_, ?_, ?_, fun s v => ?_⟩
  · rw [x6_sort hP.1 hP.2.1 hpt, hrow.1]
  · rw [x6_number hP.1 hP.2.1 hpt, hrow.2.1]
  · rw [x6_changes hP.1 hP.2.1 hpt, hrow.2.2]
  · rw [x6_value hP.1 hP.2.1 hpt, hrow.1, hrow.2.1]
theorem x7_hasI {o T : Nat} (h9 : rF uc o 9 = nI T) (hT : T ≤ 3000) : (g_X7_hasTime F o x uc = some 0 ∧ ¬ ∃ t, t ≤ T ∧ x = nI t) ∨ ∃ t, t ≤ T ∧ x = nI t ∧ g_X7_hasTime F o x uc = some 1 := by
  by_cases q : ∃ t, t ≤ T ∧ x = nI t
  · obtain ⟨t, ht, rfl⟩ := q
    exact Or.inr ⟨t, ht, rfl, x7_hasT h9 hT ht⟩
  · refine Or.inl ⟨?_, q⟩
    unfold g_X7_hasTime
    by_cases q1 : x < 0
    · rw [if_pos q1]
    · obtain ⟨k, hk, rfl⟩ := nI_of q1
      rw [if_neg q1, h9, if_pos (nI_lt (by
        have : ¬ k ≤ T := fun a => q ⟨k, a, rfl⟩
        omega) hk)]
theorem in2_iff : (¬ x < 0 ∧ x ≤ 2) ↔ ¬ g_X10_isIn x 0 2 = 0 := by
  rw [in_0, Decidable.not_not, Int32.lt_iff_toInt_lt, Int32.le_iff_toInt_le, Int32.le_iff_toInt_le, t_0]
  constructor
  · rintro ⟨a, b⟩; exact ⟨by omega, b⟩
  · rintro ⟨a, b⟩; exact ⟨by omega, b⟩
theorem sr_at (hF : 10000 < F) : SB pB (g_X9_at F x y z) (g_X10_at F x y z) := fun uc um h => by
  obtain ⟨K, W, r1, -⟩ := id h
  have h0 := Rel_zero h
  have m0 : okM (sF um 0 35 0) K W := okM_34 (by omega) r1
  have eA : aR (sF um 0 35 0) = aR um := rfl
  unfold g_X9_at
  rw [lt1_i]
  rcases Rel_ask (F := F) h0 m0 with ⟨e5, en⟩ | ⟨ea, e5, h5, en, hR⟩
  · rw [en, ob_i, om_0]
    rcases m_at (F := F) (x := x) (y := y) (z := z) r1 hF with ⟨-, q, -⟩ | ⟨t, p, u', -, w, -⟩
    · exact ⟨_, _, rfl, q, rfl, h0⟩
    · rw [show um.2.1 5 (aR um) = 0 from e5] at w
      exact absurd w (by decide)
  · have hro := m0.1.2.2.2.2.1 _ ea
    have hT3 := hro.2.2.2.2.2.2.1.1.2.2.2.1
    rw [eA] at *
    obtain ⟨N, hS⟩ := hR.2.2.2.2.2.2
    rw [en, ob_i, om_i, ck_t (oR_rn h5), cl_place]
    have bad : ¬ (isTm um x ∧ ¬ g_X10_isPlace y = 0 ∧ ¬ g_X10_isIn z 0 2 = 0) → ∃ zm, g_X10_at F x y z um = some zm ∧ (-1000001 : Int32) = zm.1 ∧ RelC pB (sF uc 0 13 0) zm.2 := fun hb => by
      rcases m_at (F := F) (x := x) (y := y) (z := z) r1 hF with ⟨-, q, -⟩ | ⟨t, p, u', -, w1, w2, w3, w4, w5, w6, -⟩
      · exact ⟨_, q, rfl, h0⟩
      · exact absurd ⟨⟨w1, t, w2, w3⟩, by rw [w5]; exact in_nI (a := 0) (b := 39) (by omega) (by omega) (by decide), w6⟩ hb
    rcases x7_hasI (F := F) (x := x) hS.1 hT3 with ⟨q1, q2⟩ | ⟨t, ht, rfl, q1⟩
    · rw [q1, ob_i, if_pos rfl]
      obtain ⟨zm, b1, b2, b3⟩ := bad (fun w => q2 w.1.2)
      exact ⟨_, zm, rfl, b1, b2, b3⟩
    · rw [q1, ob_i, if_neg (by decide)]
      by_cases q2 : g_X10_isPlace y = 0
      · rw [if_pos q2]
        obtain ⟨zm, b1, b2, b3⟩ := bad (fun w => w.2.1 q2)
        exact ⟨_, zm, rfl, b1, b2, b3⟩
      · rw [if_neg q2]
        by_cases q3 : g_X10_isIn z 0 2 = 0
        · obtain ⟨zm, b1, b2, b3⟩ := bad (fun w => w.2.2 q3)
          refine ⟨(-1000001, sF uc 0 13 0), zm, ?_, b1, b2, b3⟩
          by_cases q4 : z < 0
          · rw [if_pos q4]
          · rw [if_neg q4, if_neg (fun q5 => in2_iff.mp ⟨q4, q5⟩ q3)]
        · obtain ⟨i1, i2⟩ := in2_iff.mpr q3
          rw [if_neg i1, if_pos i2]
          rcases m_at (F := F) (x := nI t) (y := y) (z := z) r1 hF with ⟨w, -⟩ | ⟨t2, p, u', w0, w1, w2, w3, w4, w5, w6, q, hok, hce⟩
          · exact absurd ⟨⟨e5, t, ht, rfl⟩, q2, q3⟩ w
          · have et : t2 = t := nI_inj (by have : Tr um (aR um) ≤ 3000 := hT3; omega) (by omega) w3.symm
            subst et
            have hrep := c_replay (F := F) (t := t2) hR hro ht oR_ge hF
            have hRel : RelC pB (cSc (sF uc 0 13 0) (oR (aR um)) (nI (costM (sF um 0 35 0) (aR um) t2))) u' := Rel_e (Rel_cS h0 m0 ea) ⟨core_cS m0.1, simM_cS m0.2⟩ hce hok
            have hR2 : RR pB (cSc (sF uc 0 13 0) (oR (aR um)) (nI (costM (sF um 0 35 0) (aR um) t2))) (cS (sF um 0 35 0) (aR um) (nI (costM (sF um 0 35 0) (aR um) t2))) (oR (aR um)) (aR um) := RR_cS hR (by have := oR_ge (r := aR um); omega)
            obtain ⟨n, b1, b2, b3, b4, -⟩ := c_read (F := F) (p := p) hR2 ht w4 hT3 hF
            rw [hrep, ob_i, w5, b1, ob_i]
            have eR : rpm (cS (sF um 0 35 0) (aR um) (nI (costM (sF um 0 35 0) (aR um) t2))) (aR um) t2 = rpm um (aR um) t2 := rpm_cS
            rw [eR] at b2 b3 b4
            rw [w5] at q
            by_cases z0 : z = 0
            · rw [if_pos z0] at q ⊢
              rw [b2, ob_i]
              exact ⟨_, _, rfl, q, rfl, hRel⟩
            · rw [if_neg z0] at q ⊢
              by_cases z1 : z = 1
              · rw [if_pos z1] at q ⊢
                rw [b3, ob_i]
                exact ⟨_, _, rfl, q, rfl, hRel⟩
              · rw [if_neg z1] at q ⊢
                rw [b4, ob_i]
                exact ⟨_, _, rfl, q, rfl, hRel⟩
end YF
end W_79
section W_80
-- 97zzo.leave
/-! the class: what calls that only read leave as it was -/
abbrev isCn (k : Nat) : Prop := k = 11612 ∨ k = 15112 ∨ k = 18512 ∨ k = 21912 ∨ k = 25312
/-- only marks, pairs and counts of replays are other -/
def wyX (u0 u : rg_U) : Prop := wkB u ∧ u.2.2 = u0.2.2 ∧ (∀ j, (j < 8 ∨ 116 ≤ j) → u.2.1 j = u0.2.1 j) ∧ ∀ k, k ≠ 13 → k ≠ 803 → ¬ isCn k → u.1 k = u0.1 k
section WY
variable {F o o' j s : Nat} {x y z v i a b c d e : Int32} {u0 u w : rg_U}
theorem wy_r (h : wkB u) : wyX u u := ⟨h, rfl, fun _ _ => rfl, fun _ _ _ _ => rfl⟩
theorem wy_k (h : wyX u0 u) : wkX u0 u := ⟨h.1, fun i hi => h.2.2.2 i (by omega) (by omega) (by omega), fun j hj => h.2.2.1 j (by omega), h.2.1⟩
theorem wy_R {k : Nat} (h : wyX u0 u) (hj : 8 ≤ j ∧ j < 116) : wyX u0 (rg_R u j k v) := ⟨h.1, h.2.1, fun j' hj' => (R_n (by omega)).trans (h.2.2.1 j' hj'), h.2.2.2⟩
theorem wy_A (h : wyX u0 u) (hj : 8 ≤ j ∧ j < 116) : wyX u0 (sA u j i v) := wy_R h hj
theorem wy_Z (h : wyX u0 u) (hj : 8 ≤ j ∧ j < 116) : wyX u0 (sZ u j i v) := wy_R h hj
theorem wy_up {f : Nat → Int32} (h : wyX u0 u) (hj : 8 ≤ j ∧ j < 116) : wyX u0 (u.1, va_up u.2.1 j f, u.2.2) := ⟨h.1, h.2.1, fun j' hj' => by
  rw [← h.2.2.1 j' hj']
  show va_up u.2.1 j f j' = _
  exact pm_up_n (by omega), h.2.2.2⟩
theorem wy_f {k : Nat} (h : wyX u0 u) (hk : k = 13 ∨ k = 803 ∨ isCn k) (hn : wkN k) : wyX u0 (rg_F u k v) := by
  refine ⟨fun p hp => ?_, h.2.1, h.2.2.1, fun i i1 i2 i3 => ?_⟩
  · show 0 ≤ (upd u.1 k v p.1).toInt ∧ (upd u.1 k v p.1).toInt ≤ p.2
    rw [pk_un (hn p hp)]
    exact h.1 p hp
  · show upd u.1 k v i = _
    rw [pk_un (by omega)]
    exact h.2.2.2 i i1 i2 i3
theorem wy_13 (h : wyX u0 u) : wyX u0 (sF u 0 13 v) := wy_f h (Or.inl rfl) (by decide)
theorem wy_803 (h : wyX u0 u) : wyX u0 (sF u 8 3 v) := wy_f h (Or.inr (Or.inl rfl)) (by decide)
theorem wy_12 (h : wyX u0 u) (ho : isRn o) : wyX u0 (sF u o 12 v) := wy_f h (Or.inr (Or.inr (by rcases ho with rfl | rfl | rfl | rfl | rfl <;> decide))) (tn_12 ho)
theorem y_unmark (h : wyX u0 u) (hF : 10000 < F) : Tt (g_X6_unmarkAll F o 115 3800 u) (fun w => wyX u0 w) := by
  have eN : (Int32.ofNat 3800).toInt = 3800 := rfl
  unfold g_X6_unmarkAll
  refine tt_b (tt_lp (I := fun s => wyX u0 s.2 ∧ 0 ≤ s.1.toInt ∧ s.1.toInt ≤ 3800) (m := fun s => (3800 - s.1.toInt).toNat) (P := fun w => wyX u0 w) ?_ F _ ?_ ?_) (fun _ q => q)
  · rintro ⟨c, w⟩ ⟨h0, h1, h2⟩
    dsimp only at h0 h1 h2 ⊢
    unfold g_X6_unmarkAll_l2
    refine tt_if (fun _ => tt_r h0) (fun _ => tt_if (fun _ => tt_r h0) (fun h3 => ?_))
    rw [Int32.le_iff_toInt_le, eN] at h3
    have hi : inb c 3800 := by constructor <;> omega
    have := t_a1 (x := c) (by omega)
    exact tt_ck hi (tt_lt (tt_l ⟨⟨wy_Z h0 (by decide), by dsimp only; omega⟩, by dsimp only; omega⟩))
  · dsimp only
    rw [t_0]
    omega
  · dsimp only
    rw [t_0]
    exact ⟨h, by omega⟩
theorem y_mark (h : wyX u0 u) : Tt (g_X6_mark F o 115 3800 x u) (fun w => wyX u0 w) := by
  unfold g_X6_mark
  exact tt_ob z_has6 (fun r hr => tt_if (fun _ => tt_s h) (fun q => tt_if (fun _ => tt_s h) (fun _ => tt_ck (hr q) (tt_lt (tt_s (wy_Z h (by decide)))))))
theorem y_markBelow (h : wyX u0 u) (ho : isRn o) (hF : 10000 < F) : Tt (g_X6_markAllBelow F (o + 12) x 115 3800 u) (fun w => wyX u0 w) := by
  unfold g_X6_markAllBelow
  refine tt_ob (y_unmark h hF) (fun _ h1 => tt_ob (y_mark h1) (fun w2 h2 => tt_b (tt_lp (I := fun s => wyX u0 s.2 ∧ s.1.toInt ≤ 3799) (m := fun s => (s.1.toInt + 1).toNat) (P := fun w => wyX u0 w) ?_ F _ ?_ ?_) (fun _ q => q)))
  · rintro ⟨c, w⟩ ⟨h0, h3⟩
    dsimp only at h0 h3 ⊢
    unfold g_X6_markAllBelow_l22
    refine tt_if (fun _ => tt_r h0) (fun h4 => ?_)
    rw [Int32.lt_iff_toInt_lt, t_0] at h4
    have hi : inb c 3800 := by constructor <;> omega
    have := t_d1 (x := c) (by omega)
    have fin : ∀ w', wyX u0 w' → Tt (g_X6_markAllBelow_j56 F (o + 12) 115 3800 c w') (PS (fun s' : Int32 × rg_U => (wyX u0 s'.2 ∧ s'.1.toInt ≤ 3799) ∧ (s'.1.toInt + 1).toNat < (c.toInt + 1).toNat) (fun w : rg_U => wyX u0 w)) := fun w' hw' => tt_l ⟨⟨hw', by dsimp only; omega⟩, by dsimp only; omega⟩
    exact tt_ob (z_isMarked (by decide)) (fun _ _ => tt_if (fun _ => fin _ h0) (fun _ => tt_ck hi (tt_ob (y_mark h0) (fun _ h5 => tt_ck hi (tt_ob (y_mark h5) (fun _ h6 => fin _ h6))))))
  all_goals
    have hb := b_P (wy_k h2) ho
    have hs := t_s1 (x := rF w2 (o + 12) 11) (by omega)
    have hm : (imin x (rF w2 (o + 12) 11 - 1)).toInt ≤ 3799 := by
      unfold imin
      by_cases q : rF w2 (o + 12) 11 - 1 < x
      · rw [if_pos q]; omega
      · rw [if_neg q]
        rw [Int32.lt_iff_toInt_lt] at q
        omega
    dsimp only
  · omega
  · exact ⟨h2, hm⟩
theorem y_markAbove (h : wyX u0 u) (hF : 10000 < F) : Tt (g_X6_markAllAbove F o x 115 3800 u) (fun w => wyX u0 w) := by
  unfold g_X6_markAllAbove
  refine tt_ob (y_unmark h hF) (fun w1 h1 => tt_b (tt_lp (I := fun s => wyX u0 s.2 ∧ 0 ≤ s.1.toInt ∧ s.1.toInt ≤ 3800) (m := fun s => (3800 - s.1.toInt).toNat) (P := fun w => wyX u0 w) ?_ F _ ?_ ?_) (fun _ q => q))
  · rintro ⟨c, w⟩ ⟨h0, h3, h4⟩
    dsimp only at h0 h3 h4 ⊢
    unfold g_X6_markAllAbove_l7
    refine tt_if (fun _ => tt_r h0) (fun _ => tt_if (fun _ => tt_r h0) (fun h5 => ?_))
    rw [Int32.le_iff_toInt_le, t_3800] at h5
    have hi : inb c 3800 := by constructor <;> omega
    have := t_a1 (x := c) (by omega)
    have j64 : ∀ w', wyX u0 w' → Tt (g_X6_markAllAbove_j64 F o 115 3800 x c w') (PS (fun s' : Int32 × rg_U => (wyX u0 s'.2 ∧ 0 ≤ s'.1.toInt ∧ s'.1.toInt ≤ 3800) ∧ (3800 - s'.1.toInt).toNat < (3800 - c.toInt).toNat) (fun w : rg_U => wyX u0 w)) := fun w' hw' => tt_l ⟨⟨hw', by dsimp only; omega⟩, by dsimp only; omega⟩
    have j58 : Tt (g_X6_markAllAbove_j58 F o 115 3800 x c w) (PS (fun s' : Int32 × rg_U => (wyX u0 s'.2 ∧ 0 ≤ s'.1.toInt ∧ s'.1.toInt ≤ 3800) ∧ (3800 - s'.1.toInt).toNat < (3800 - c.toInt).toNat) (fun w : rg_U => wyX u0 w)) := by
      unfold g_X6_markAllAbove_j58
      exact tt_ob (y_mark h0) (fun _ h6 => j64 _ h6)
    exact tt_ck hi (tt_if (fun _ => j58) (fun _ => tt_ck hi (tt_ob (z_isMarked (by decide)) (fun _ _ => tt_if (fun _ => tt_ck hi (tt_ob (z_isMarked (by decide)) (fun _ _ => tt_if (fun _ => j64 _ h0) (fun _ => j58)))) (fun _ => j58)))))
  · dsimp only
    rw [t_0]
    omega
  · dsimp only
    rw [t_0]
    exact ⟨h1, by omega⟩
theorem ty_row {α : Type} {f : Nat → Option α} {P : α → Prop} (hG : wkG u0) (h : wyX u0 u) (hx : inb x 101) (k : ∀ r, isRw r → Tt (f r) P) : Tt (om (rQ u 9 x) none (fun r => ck (isRw r) (f r))) P := by
  obtain ⟨n, hn, e⟩ := t_nI (x := x) (N := 100) hx.1 (by have := hx.2; omega)
  have e2 : rQ u 9 x = some (10 + n) := by
    unfold rQ
    rw [h.2.1, e, nI_clamp (by omega)]
    exact hG.2.2 n (by omega)
  have hr : isRw (10 + n) := ⟨by omega, by omega⟩
  rw [e2, om_i]
  exact tt_ck hr (k _ hr)
theorem y_pairs37 {l4 l5 : Int32} (hG : wkG u0) (h : wyX u0 u) (h5 : 0 ≤ l5.toInt ∧ l5.toInt ≤ 99) (h4 : 0 ≤ l4.toInt ∧ l4.toInt ≤ 100) (hF : 10000 < F) : Tt (lp (fun (s : (Int32 × rg_U)) => g_X0_countPairs_l37 F o o' l4 l5 s.1 s.2) F (l4 - 1, u)) (fun w => wyX u0 w) := by
  have hs := t_s1 (x := l4) (by omega)
  have h51 := t_a1 (x := l5) (by omega)
  have i5 : inb l5 101 := by constructor <;> omega
  have i51 : inb (l5 + 1) 101 := by constructor <;> omega
  refine tt_lp (I := fun s => wyX u0 s.2 ∧ -1 ≤ s.1.toInt ∧ s.1.toInt ≤ 99) (m := fun s => (s.1.toInt + 1).toNat) (P := fun w => wyX u0 w) ?_ F _ ?_ ?_
  · rintro ⟨c, w⟩ ⟨h0, h1, h2⟩
    dsimp only at h0 h1 h2 ⊢
    unfold g_X0_countPairs_l37
    refine tt_if (fun _ => tt_r h0) (fun h3 => ?_)
    rw [Int32.lt_iff_toInt_lt, t_0] at h3
    have hc1 := t_a1 (x := c) (by omega)
    have hcd := t_d1 (x := c) (by omega)
    have ic : inb c 101 := by constructor <;> omega
    have ic1 : inb (c + 1) 101 := by constructor <;> omega
    have fin : ∀ p q, Tt (g_X0_countPairs_j103 F o o' l4 l5 c p q w) (PS (fun s' : Int32 × rg_U => (wyX u0 s'.2 ∧ -1 ≤ s'.1.toInt ∧ s'.1.toInt ≤ 99) ∧ (s'.1.toInt + 1).toNat < (c.toInt + 1).toNat) (fun w : rg_U => wyX u0 w)) := fun p q => by
      unfold g_X0_countPairs_j103
      exact tt_ck i5 (ty_row hG h0 i5 (fun r hr => tt_ck ic (tt_lt (tt_l ⟨⟨wy_A h0 (by have := hr.1; have := hr.2; omega), by dsimp only; omega⟩, by dsimp only; omega⟩))))
    exact tt_ck i51 (ty_row hG h0 i51 (fun r hr => tt_ck ic (tt_ck i5 (ty_row hG h0 i5 (fun r2 hr2 => tt_ck ic1 (tt_ob z_isLike (fun _ _ => tt_if (fun _ => fin _ _) (fun _ => tt_ck i51 (ty_row hG h0 i51 (fun r3 hr3 => tt_ck ic1 (fin _ _)))))))))))
  · dsimp only
    omega
  · dsimp only
    exact ⟨h, by omega⟩
theorem y_countPairs (hG : wkG u0) (h : wyX u0 u) (h2 : 0 ≤ x.toInt ∧ x.toInt ≤ 100) (h4 : 0 ≤ y.toInt ∧ y.toInt ≤ 100) (hF : 10000 < F) : Tt (g_X0_countPairs F o x o' y u) (fun w => wyX u0 w) := by
  have hs := t_s1 (x := x) (by omega)
  have ix : inb x 101 := by constructor <;> omega
  have iy : inb y 101 := by constructor <;> omega
  unfold g_X0_countPairs
  refine tt_ck ix (ty_row hG h ix (fun r hr => tt_ob (Q := fun w => wyX u0 w) ⟨_, g_fill_eq (by decide) (by omega), wy_up h (by have := hr.1; have := hr.2; omega)⟩ (fun w1 hw1 => tt_b (tt_lp (I := fun s => wyX u0 s.2 ∧ -1 ≤ s.1.toInt ∧ s.1.toInt ≤ 99) (m := fun s => (s.1.toInt + 1).toNat) (P := fun w => wyX u0 w) ?_ F _ ?_ ?_) (fun _ q => q))))
  · rintro ⟨c, w⟩ ⟨h0, h1, h3⟩
    dsimp only at h0 h1 h3 ⊢
    unfold g_X0_countPairs_l15
    refine tt_if (fun _ => tt_r h0) (fun h5 => ?_)
    rw [Int32.lt_iff_toInt_lt, t_0] at h5
    have hcd := t_d1 (x := c) (by omega)
    have ic : inb c 101 := by constructor <;> omega
    exact tt_ck ic (ty_row hG h0 ic (fun r2 hr2 => tt_ck iy (tt_lt (tt_ob (y_pairs37 hG (wy_A h0 (by have := hr2.1; have := hr2.2; omega)) (by omega) h4 hF) (fun w' hw' => tt_l ⟨⟨hw', by dsimp only; omega⟩, by dsimp only; omega⟩)))))
  · dsimp only
    omega
  · dsimp only
    exact ⟨hw1, by omega⟩
theorem y_choosePairs (hG : wkG u0) (h : wyX u0 u) (h2 : 0 ≤ x.toInt ∧ x.toInt ≤ 100) (h4 : 0 ≤ y.toInt ∧ y.toInt ≤ 100) (hF : 10000 < F) : Tt (g_X0_choosePairs F o x o' y u) (fun w => wyX u0 w) := by
  unfold g_X0_choosePairs
  refine tt_lt (tt_b (tt_lp (I := fun s => wyX u0 s.2.2 ∧ (0 ≤ s.1.toInt ∧ s.1.toInt ≤ 100) ∧ (0 ≤ s.2.1.toInt ∧ s.2.1.toInt ≤ 100) ∧ 0 ≤ (rF s.2.2 8 3).toInt) (m := fun s => (100 - s.2.1.toInt).toNat) (P := fun w => wyX u0 w) ?_ F _ ?_ ?_) (fun _ q => q))
  · rintro ⟨a, c, w⟩ ⟨h0, h1, h3, h5⟩
    dsimp only at h0 h1 h3 h5 ⊢
    unfold g_X0_choosePairs_l11
    refine tt_if (fun _ => tt_r h0) (fun h6 => tt_if (fun _ => tt_r h0) (fun h7 => ?_))
    rw [Int32.le_iff_toInt_le] at h6
    rw [Int32.le_iff_toInt_le, t_100] at h7
    have hc1 := t_a1 (x := c) (by omega)
    have ic : inb c 101 := by constructor <;> omega
    have ic1 : inb (c + 1) 101 := by constructor <;> omega
    have ia : inb a 101 := by constructor <;> omega
    have ip : inb (rF w 8 3) 100 := by constructor <;> omega
    have hp1 := t_a1 (x := rF w 8 3) (by omega)
    refine tt_ob (tt_lp (I := fun s => 0 ≤ s.toInt ∧ s.toInt ≤ 100) (m := fun s => (100 - s.toInt).toNat) (P := fun s => 0 ≤ s.toInt ∧ s.toInt ≤ 100) ?_ F _ ?_ ?_) (fun r hr => ?_)
    · intro d hd
      unfold g_X0_choosePairs_l30
      refine tt_if (fun _ => tt_r hd) (fun h8 => ?_)
      rw [Int32.le_iff_toInt_le] at h8
      have hd1 := t_a1 (x := d) (by omega)
      have id1 : inb (d + 1) 101 := by constructor <;> omega
      have fin : Tt (g_X0_choosePairs_j78 F o o' x y a c d w) (PS (fun s' : Int32 => (0 ≤ s'.toInt ∧ s'.toInt ≤ 100) ∧ (100 - s'.toInt).toNat < (100 - d.toInt).toNat) (fun s : Int32 => 0 ≤ s.toInt ∧ s.toInt ≤ 100)) := tt_l (by omega)
      exact tt_ob z_isLike (fun _ _ => tt_if (fun _ => fin) (fun _ => tt_ck ic1 (ty_row hG h0 ic1 (fun r hr => tt_ck id1 (tt_ck ic (ty_row hG h0 ic (fun r2 hr2 => tt_ck ia (tt_if (fun _ => tt_r hd) (fun _ => fin)))))))))
    · omega
    · exact h1
    · unfold g_X0_choosePairs_j84
      have fin : ∀ (a' : Int32) (w' : rg_U), wyX u0 w' → (0 ≤ a'.toInt ∧ a'.toInt ≤ 100) → 0 ≤ (rF w' 8 3).toInt → Tt (g_X0_choosePairs_j129 F o o' x y a' c w') (PS (fun s' : Int32 × Int32 × rg_U => (wyX u0 s'.2.2 ∧ (0 ≤ s'.1.toInt ∧ s'.1.toInt ≤ 100) ∧ (0 ≤ s'.2.1.toInt ∧ s'.2.1.toInt ≤ 100) ∧ 0 ≤ (rF s'.2.2 8 3).toInt) ∧ (100 - s'.2.1.toInt).toNat < (100 - c.toInt).toNat) (fun w : rg_U => wyX u0 w)) := fun a' w' hw' ha' hp' => tt_l ⟨⟨hw', ha', by dsimp only; omega, hp'⟩, by dsimp only; omega⟩
      refine tt_if (fun _ => fin _ _ h0 h1 h5) (fun h9 => ?_)
      rw [Int32.le_iff_toInt_le] at h9
      have hr1 := t_a1 (x := r) (by omega)
      refine tt_ck ip (tt_lt (tt_ck ip (tt_lt (tt_lt (fin _ _ (wy_803 (wy_A (wy_A h0 (by decide)) (by decide))) (by omega) ?_)))))
      show 0 ≤ (rF w 8 3 + 1).toInt
      omega
  · dsimp only
    rw [t_0]
    omega
  · dsimp only
    exact ⟨wy_803 h, by rw [t_0]; omega, by rw [t_0]; omega, by show 0 ≤ (0 : Int32).toInt; decide⟩
theorem y_lay (hG : wkG u0) (h : wyX u0 u) (ho : isRn o) (ho' : isRn o') (hF : 10000 < F) : Tt (g_X0_lay F (o + 24) (o' + 24) u) (fun w => wyX u0 w) := by
  have h1 := t_imin (x := rF u (o + 24) 3) (y := 100) (N := 100) (b_C (wy_k h) ho).1 (by decide) (by decide)
  have h2 := t_imin (x := rF u (o' + 24) 3) (y := 100) (N := 100) (b_C (wy_k h) ho').1 (by decide) (by decide)
  unfold g_X0_lay
  exact tt_ob (y_countPairs hG h h1 h2 hF) (fun _ h3 => tt_b (y_choosePairs hG h3 h1 h2 hF) (fun _ q => q))
theorem y_goThrough {p : Nat} (h : wyX u0 u) (ho : isRn o) (hp : 8 ≤ p ∧ p < 116) (hx : 0 ≤ x.toInt ∧ x.toInt ≤ 3800) (hF : 10000 < F) : Tt (g_X0_goThrough F (o + 12) x y p 40 u) (fun z => wyX u0 z.2 ∧ 0 ≤ z.1.toInt ∧ z.1.toInt ≤ 3800) := by
  have eN : (Int32.ofNat 40).toInt = 40 := rfl
  unfold g_X0_goThrough
  refine tt_b (tt_lp (I := fun s => wyX u0 s.2 ∧ 0 ≤ s.1.toInt ∧ s.1.toInt ≤ 3800) (m := fun s => (3800 - s.1.toInt).toNat) (P := fun z => wyX u0 z.2 ∧ 0 ≤ z.1.toInt ∧ z.1.toInt ≤ 3800) ?_ F _ ?_ ?_) (fun _ q => q)
  · rintro ⟨c, w⟩ ⟨h0, h1, h2⟩
    dsimp only at h0 h1 h2 ⊢
    have hb := b_P (wy_k h0) ho
    unfold g_X0_goThrough_l3
    refine tt_if (fun _ => tt_r ⟨h0, h1, h2⟩) (fun h3 => ?_)
    rw [Int32.le_iff_toInt_le] at h3
    have := t_a1 (x := c) (by omega)
    have fin : ∀ w', wyX u0 w' → Tt (g_X0_goThrough_j48 F (o + 12) p 40 y c w') (PS (fun s' : Int32 × rg_U => (wyX u0 s'.2 ∧ 0 ≤ s'.1.toInt ∧ s'.1.toInt ≤ 3800) ∧ (3800 - s'.1.toInt).toNat < (3800 - c.toInt).toNat) (fun z : Int32 × rg_U => wyX u0 z.2 ∧ 0 ≤ z.1.toInt ∧ z.1.toInt ≤ 3800)) := fun w' hw' => tt_l ⟨⟨hw', by dsimp only; omega⟩, by dsimp only; omega⟩
    refine tt_ob z_timeOf6 (fun _ _ => tt_if (fun _ => tt_r ⟨h0, h1, h2⟩) (fun _ => tt_ob z_placeOf (fun r _ => tt_if (fun _ => fin _ h0) (fun h4 => tt_if (fun _ => fin _ h0) (fun h5 => tt_ck ?_ (tt_lt (fin _ (wy_A h0 hp))))))))
    rw [Int32.lt_iff_toInt_lt, t_0] at h4
    rw [Int32.le_iff_toInt_le, eN] at h5
    constructor <;> omega
  · dsimp only
    omega
  · exact ⟨h, hx⟩
theorem y_firstUnlike (h : wyX u0 u) (ho : isRn o) (ho' : isRn o') (hF : 10000 < F) : Tt (g_X0_firstUnlike F o o' u) (fun z => wyX u0 z.2) := by
  unfold g_X0_firstUnlike
  refine tt_ob (Q := fun w => wyX u0 w) ⟨_, g_fill_eq (by decide) (by omega), wy_up h (by decide)⟩ (fun w1 h1 => tt_ob (Q := fun w => wyX u0 w) ⟨_, g_fill_eq (by decide) (by omega), wy_up h1 (by decide)⟩ (fun w2 h2 => ?_))
  have hm := t_imin (x := rF w2 o 9) (y := rF w2 o' 9) (N := 3000) (b_9 (wy_k h2) ho).1 (b_9 (wy_k h2) ho').1 (b_9 (wy_k h2) ho').2
  refine tt_ob (tt_lp (I := fun s => wyX u0 s.2.2.2 ∧ (0 ≤ s.1.toInt ∧ s.1.toInt ≤ 3800) ∧ (0 ≤ s.2.1.toInt ∧ s.2.1.toInt ≤ 3800) ∧ (0 ≤ s.2.2.1.toInt ∧ s.2.2.1.toInt ≤ 3001)) (m := fun s => (3001 - s.2.2.1.toInt).toNat) (P := fun r => (∀ a, r = Sum.inl a → wyX u0 a.2) ∧ ∀ a, r = Sum.inr a → wyX u0 a) ?_ F _ ?_ ?_) (fun r hr => tt_os (fun a ha => tt_s (hr.1 a ha)) (fun a ha => tt_s (hr.2 a ha)))
  · rintro ⟨a, c, t, w⟩ ⟨h0, ha, hc, ht⟩
    dsimp only at h0 ha hc ht ⊢
    unfold g_X0_firstUnlike_l37
    refine tt_if (fun _ => tt_r ⟨fun a q => (by cases q), fun a q => (by cases q; exact h0)⟩) (fun h3 => ?_)
    rw [Int32.lt_iff_toInt_lt] at h3
    have h4 := t_a1 (x := t) (by omega)
    refine tt_ob (y_goThrough h0 ho (by decide) ha hF) (fun r1 hr1 => tt_ob (y_goThrough hr1.1 ho' (by decide) hc hF) (fun r2 hr2 => ?_))
    have ex : Tt (some (Sum.inr (Sum.inl (t, r2.2))) : Option ((Int32 × Int32 × Int32 × rg_U) ⊕ ((Int32 × rg_U) ⊕ rg_U))) (PS (fun s' : Int32 × Int32 × Int32 × rg_U => (wyX u0 s'.2.2.2 ∧ (0 ≤ s'.1.toInt ∧ s'.1.toInt ≤ 3800) ∧ (0 ≤ s'.2.1.toInt ∧ s'.2.1.toInt ≤ 3800) ∧ (0 ≤ s'.2.2.1.toInt ∧ s'.2.2.1.toInt ≤ 3001)) ∧ (3001 - s'.2.2.1.toInt).toNat < (3001 - t.toInt).toNat) (fun r : (Int32 × rg_U) ⊕ rg_U => (∀ a, r = Sum.inl a → wyX u0 a.2) ∧ ∀ a, r = Sum.inr a → wyX u0 a)) := tt_r ⟨fun a q => (by cases q; exact hr2.1), fun a q => (by cases q)⟩
    exact tt_ob z_counterAt (fun _ _ => tt_ob z_counterAt (fun _ _ => tt_if (fun _ => tt_ob (z_stackLike hF) (fun _ _ => tt_if (fun _ => ex) (fun _ => tt_ob (k_areUnlike ha hr1.2 hF) (fun _ _ => tt_if (fun _ => tt_ob (k_areUnlike hc hr2.2 hF) (fun _ _ => tt_if (fun _ => tt_l ⟨⟨hr2.1, hr1.2, hr2.2, by dsimp only; omega⟩, by dsimp only; omega⟩) (fun _ => ex))) (fun _ => ex))))) (fun _ => ex)))
  · dsimp only
    rw [t_0]
    omega
  · dsimp only
    rw [t_0]
    exact ⟨h2, by omega, by omega, by omega⟩
theorem y_count (h : wyX u0 u) (ho : isRn o) : Tt (g_X9_count F o x u) (fun w => wyX u0 w) := by
  have hg := rn_ge ho
  unfold g_X9_count
  exact tt_lt (tt_lt (tt_s (wy_13 (wy_12 h ho))))
theorem y_replay (h : wyX u0 u) (ho : isRn o) (hF : 10000 < F) : Tt (g_X9_replay F o x u) (fun w => wyX u0 w) := by
  unfold g_X9_replay g_X9_replay_j24
  exact tt_if (fun _ => tt_b (y_count h ho) (fun _ q => q)) (fun _ => tt_ob (z_latestBy (b_H (wy_k h) ho) hF) (fun _ _ => tt_b (y_count h ho) (fun _ q => q)))
theorem y_lastChange (h : wyX u0 u) (ho : isRn o) (hx : inb x 3001) (hF : 10000 < F) : Tt (g_X9_lastChange F o x y u) (fun z => wyX u0 z.2) := by
  obtain ⟨X, hX, eX⟩ := t_nI (x := x) (N := 3000) hx.1 (by have := hx.2; omega)
  unfold g_X9_lastChange
  refine tt_ob (y_replay h ho hF) (fun w1 h1 => tt_ob (z_putBy (b_P (wy_k h1) ho) hF) (fun _ _ => tt_ob z_changesOf (fun _ _ => tt_if (fun _ => tt_s h1) (fun _ => tt_ob (z_changedSince (b_P (wy_k h1) ho) hF) (fun r _ => tt_b (tt_lp (I := fun s => wyX u0 s.2.2 ∧ ∃ a b : Nat, s.1 = nI a ∧ s.2.1 = nI b ∧ a ≤ 3001 ∧ b ≤ 3000) (m := fun s => (s.2.1.toInt - s.1.toInt).toNat) (P := fun z => wyX u0 z.2) ?_ F _ ?_ ?_) (fun _ q => q))))))
  · rintro ⟨p, q, w⟩ ⟨h0, a, b, rfl, rfl, ha, hb⟩
    dsimp only at h0 ⊢
    unfold g_X9_lastChange_l48 g_X9_lastChange_j91
    refine tt_if (fun _ => tt_r h0) (fun h3 => ?_)
    have hab : a < b := by
      rcases Nat.lt_or_ge a b with z | z
      · exact z
      · exact absurd (nI_le z (by omega)) h3
    have em : (nI a + nI b) / 2 = nI ((a + b) / 2) := by rw [nI_add]; exact pk_div (a := a + b) (d := 2) (by omega) (by omega) (by omega)
    rw [em]
    have ta := nI_toInt (n := a) (by omega)
    have tb := nI_toInt (n := b) (by omega)
    have tm := nI_toInt (n := (a + b) / 2) (by omega)
    have tm1 := nI_toInt (n := (a + b) / 2 + 1) (by omega)
    refine tt_ob (y_replay h0 ho hF) (fun w' hw' => tt_if (fun _ => tt_l ⟨⟨hw', (a + b) / 2 + 1, b, nI_1 _, rfl, by omega, hb⟩, ?_⟩) (fun _ => tt_l ⟨⟨hw', a, (a + b) / 2, rfl, rfl, ha, by omega⟩, ?_⟩))
    · dsimp only
      rw [nI_1, tm1, tb, ta]
      omega
    · dsimp only
      rw [tm, tb, ta]
      omega
  · dsimp only
    rw [t_0, eX, nI_toInt (by omega)]
    omega
  · exact ⟨h1, 0, X, rfl, eX, by omega, hX⟩
theorem wy_at (h : wyX u0 u) (hG : wkG u0) (hF : 10000 < F) : Tt (g_X9_at F x y z u) (fun z => wyX u0 z.2) := by
  unfold g_X9_at
  have h1 : wyX u0 (sF u 0 13 0) := wy_13 h
  refine tt_lt (tt_num (wx_G hG (wy_k h1)) (tt_s h1) (fun o ho => tt_ob z_hasT (fun r hr => tt_if (fun _ => tt_s h1) (fun q => tt_if (fun _ => tt_s h1) (fun _ => tt_if (fun _ => tt_s h1) (fun _ => tt_if (fun _ => tt_ob (y_replay h1 ho hF) (fun w hw => tt_ob (z_putBy (b_P (wy_k hw) ho) hF) (fun _ _ => tt_if (fun _ => tt_b z_sortOf (fun _ _ => hw)) (fun _ => tt_if (fun _ => tt_b z_numberOf (fun _ _ => hw)) (fun _ => tt_b z_changesOf (fun _ _ => hw)))))) (fun _ => tt_s h1)))))))
theorem wy_state (h : wyX u0 u) (hG : wkG u0) (hF : 10000 < F) : Tt (g_X9_state F x y u) (fun z => wyX u0 z.2) := by
  unfold g_X9_state
  have h1 : wyX u0 (sF u 0 13 0) := wy_13 h
  exact tt_lt (tt_num (wx_G hG (wy_k h1)) (tt_s h1) (fun o ho => tt_ob z_hasT (fun r hr => tt_if (fun _ => tt_s h1) (fun q => tt_if (fun _ => tt_s h1) (fun _ => tt_ob (y_replay h1 ho hF) (fun w hw => tt_if (fun _ => tt_b z_counterAt (fun _ _ => hw)) (fun _ => tt_if (fun _ => tt_b (z_stackSize hF) (fun _ _ => hw)) (fun _ => tt_if (fun _ => tt_b z_outsAt (fun _ _ => hw)) (fun _ => tt_if (fun _ => tt_b z_checkAt (fun _ _ => hw)) (fun _ => tt_if (fun _ => tt_ob z_counterAt (fun _ _ => tt_b z_kindAt (fun _ _ => hw))) (fun _ => tt_b (z_stackedAt hF) (fun _ _ => hw))))))))))))
theorem wy_last (h : wyX u0 u) (hG : wkG u0) (hF : 10000 < F) : Tt (g_X9_last F x y u) (fun z => wyX u0 z.2) := by
  unfold g_X9_last
  have h1 : wyX u0 (sF u 0 13 0) := wy_13 h
  exact tt_lt (tt_num (wx_G hG (wy_k h1)) (tt_s h1) (fun o ho => tt_ob z_hasT (fun r hr => tt_if (fun _ => tt_s h1) (fun q => tt_if (fun _ => tt_s h1) (fun _ => tt_b (y_lastChange h1 ho (hr q) hF) (fun _ q => q))))))
theorem wy_when (h : wyX u0 u) (hG : wkG u0) (hF : 10000 < F) : Tt (g_X9_when F x y z v u) (fun z => wyX u0 z.2) := by
  unfold g_X9_when
  have h1 : wyX u0 (sF u 0 13 0) := wy_13 h
  exact tt_lt (tt_num (wx_G hG (wy_k h1)) (tt_s h1) (fun o ho => tt_ob z_hasT (fun r hr => tt_if (fun _ => tt_s h1) (fun q => tt_if (fun _ => tt_s h1) (fun _ => tt_if (fun _ => tt_s h1) (fun _ => tt_ob (z_hadBy (b_P (wy_k h1) ho) hF) (fun _ _ => tt_ob (z_stepsToFind (b_H (wy_k h1) ho) hF) (fun _ _ => tt_b (y_count h1 ho) (fun _ q => q)))))))))
theorem wy_changed (h : wyX u0 u) (hG : wkG u0) (hF : 10000 < F) : Tt (g_X9_changed F x y u) (fun z => wyX u0 z.2) := by
  unfold g_X9_changed
  have h1 : wyX u0 (sF u 0 13 0) := wy_13 h
  have hp := t_pl (y := y)
  refine tt_lt (tt_num (wx_G hG (wy_k h1)) (tt_s h1) (fun o ho => tt_if (fun _ => tt_s h1) (fun _ => tt_if (fun _ => tt_s h1) (fun _ => tt_if (fun _ => tt_s h1) (fun _ => tt_ob (y_replay h1 ho hF) (fun w1 h2 => tt_ob (y_replay h2 ho hF) (fun w2 h3 => tt_b (tt_lp (I := fun s => 0 ≤ s.2.toInt ∧ s.2.toInt ≤ 32) (m := fun s => (32 - s.2.toInt).toNat) (P := fun _ => True) ?_ F _ ?_ ?_) (fun _ _ => h3))))))))
  · rintro ⟨a, c⟩ ⟨h4, h5⟩
    dsimp only at h4 h5 ⊢
    unfold g_X9_changed_l60 g_X9_changed_j134
    refine tt_if (fun _ => tt_r trivial) (fun h6 => ?_)
    rw [Int32.le_iff_toInt_le] at h6
    have := t_a1 (x := c) (by omega)
    exact tt_ob (z_putBy (b_P (wy_k h3) ho) hF) (fun _ _ => tt_ob z_changesOf (fun _ _ => tt_ob (z_putBy (b_P (wy_k h3) ho) hF) (fun _ _ => tt_ob z_changesOf (fun _ _ => tt_if (fun _ => tt_l (by dsimp only; omega)) (fun _ => tt_l (by dsimp only; omega))))))
  · dsimp only
    rw [t_0]
    omega
  · dsimp only
    rw [t_0]
    omega
theorem wy_watched (h : wyX u0 u) (hG : wkG u0) (hF : 10000 < F) : Tt (g_X9_watched F x u) (fun z => wyX u0 z.2) := by
  unfold g_X9_watched
  have h1 : wyX u0 (sF u 0 13 0) := wy_13 h
  refine tt_lt (tt_num (wx_G hG (wy_k h1)) (tt_s h1) (fun o ho => tt_if (fun _ => tt_s h1) (fun h2 => tt_if (fun h3 => tt_b (tt_lp (I := fun s => wyX u0 s.2.2 ∧ 0 ≤ s.2.1.toInt ∧ s.2.1.toInt ≤ 40) (m := fun s => (40 - s.2.1.toInt).toNat) (P := fun z => wyX u0 z.2) ?_ F _ ?_ ?_) (fun _ q => q)) (fun _ => tt_s h1))))
  · rintro ⟨a, c, w⟩ ⟨h0, h4, h5⟩
    dsimp only at h0 h4 h5 ⊢
    unfold g_X9_watched_l39 g_X9_watched_j70
    refine tt_if (fun _ => tt_r h0) (fun h6 => ?_)
    have hb := b_9 (wy_k h1) ho
    rw [Int32.le_iff_toInt_le, t_40] at h6
    rw [Int32.lt_iff_toInt_lt, t_1] at h2
    rw [Int32.le_iff_toInt_le] at h3
    have := t_a1 (x := c) (by omega)
    have ts := t_s1 (x := x) (by omega)
    have hi : inb (x - 1) 3001 := by constructor <;> omega
    exact tt_ob z_isWatched (fun _ _ => tt_if (fun _ => tt_l ⟨⟨h0, by dsimp only; omega⟩, by dsimp only; omega⟩) (fun _ => tt_ob (y_lastChange h0 ho hi hF) (fun _ h7 => tt_l ⟨⟨h7, by dsimp only; omega⟩, by dsimp only; omega⟩)))
  · dsimp only
    rw [t_0]
    omega
  · dsimp only
    rw [t_0]
    exact ⟨h1, by omega⟩
theorem wy_rests (h : wyX u0 u) (hG : wkG u0) (hF : 10000 < F) : Tt (g_X9_rests F x y z u) (fun z => wyX u0 z.2) := by
  unfold g_X9_rests
  exact tt_num (wx_G hG (wy_k h)) (tt_s h) (fun o ho => tt_ob z_hasT (fun r hr => tt_if (fun _ => tt_s h) (fun q => tt_if (fun _ => tt_s h) (fun _ => tt_ob (z_putBy (b_P (wy_k h) ho) hF) (fun _ _ => tt_ob (y_markBelow h ho hF) (fun _ h1 => tt_b (z_markedStep (by decide) hF) (fun _ _ => h1)))))))
theorem wy_hangs (h : wyX u0 u) (hG : wkG u0) (hF : 10000 < F) : Tt (g_X9_hangs F x y z u) (fun z => wyX u0 z.2) := by
  unfold g_X9_hangs
  have hp := t_pl (y := z)
  refine tt_num (wx_G hG (wy_k h)) (tt_s h) (fun o ho => tt_ob z_has3 (fun r hr => tt_if (fun _ => tt_s h) (fun q => tt_ob z_hasT (fun r hr => tt_if (fun _ => tt_s h) (fun q => tt_if (fun _ => tt_s h) (fun _ => tt_ob (y_markAbove h hF) (fun w1 h1 => tt_b (tt_lp (I := fun s => 0 ≤ s.2.toInt ∧ s.2.toInt ≤ 32) (m := fun s => (32 - s.2.toInt).toNat) (P := fun _ => True) ?_ F _ ?_ ?_) (fun _ _ => h1))))))))
  · rintro ⟨a, c⟩ ⟨h4, h5⟩
    dsimp only at h4 h5 ⊢
    unfold g_X9_hangs_l65 g_X9_hangs_j109
    refine tt_if (fun _ => tt_r trivial) (fun h6 => ?_)
    rw [Int32.le_iff_toInt_le] at h6
    have := t_a1 (x := c) (by omega)
    exact tt_ob (z_putBy (b_P (wy_k h1) ho) hF) (fun _ _ => tt_ob (z_isMarked (by decide)) (fun _ _ => tt_if (fun _ => tt_l (by dsimp only; omega)) (fun _ => tt_l (by dsimp only; omega))))
  · dsimp only
    rw [t_0]
    omega
  · dsimp only
    rw [t_0]
    omega
theorem wy_align (h : wyX u0 u) (hG : wkG u0) (hF : 10000 < F) : Tt (g_X9_align F x y u) (fun z => wyX u0 z.2) := by
  unfold g_X9_align
  exact tt_num2 (wx_G hG (wy_k h)) (tt_s h) (fun o o' ho ho' => tt_b (y_lay hG h ho ho' hF) (fun _ q => q))
theorem wy_parts (h : wyX u0 u) (hG : wkG u0) (hF : 10000 < F) : Tt (g_X9_parts F x y u) (fun z => wyX u0 z.2) := by
  unfold g_X9_parts
  exact tt_num2 (wx_G hG (wy_k h)) (tt_s h) (fun o o' ho ho' => tt_b (y_firstUnlike h ho ho' hF) (fun _ q => q))
theorem wy_pair (h : wyX u0 u) (hG : wkG u0) (hF : 10000 < F) : Tt (g_X9_pair F x y z v u) (fun z => wyX u0 z.2) := by
  unfold g_X9_pair
  have h1 : wyX u0 (sF u 0 13 0) := wy_13 h
  exact tt_lt (tt_num2 (wx_G hG (wy_k h1)) (tt_s h1) (fun o o' ho ho' => tt_if (fun _ => tt_s h1) (fun _ => tt_if (fun _ => tt_ob (y_lay hG h1 ho ho' hF) (fun w h2 => tt_ob z_has0 (fun _ _ => tt_if (fun _ => tt_s h2) (fun _ => tt_if (fun _ => tt_b z_callOne (fun _ _ => h2)) (fun _ => tt_if (fun _ => tt_b z_callOther (fun _ _ => h2)) (fun _ => tt_ob z_callOne (fun _ _ => tt_ob z_read1 (fun _ _ => tt_ob z_callOther (fun _ _ => tt_ob z_read1 (fun _ _ => tt_ob (y_replay h2 ho hF) (fun _ h3 => tt_ob (y_replay h3 ho' hF) (fun _ h4 => tt_b (z_unlike (b_P (wy_k h4) ho) (b_P (wy_k h4) ho') hF) (fun _ _ => h4))))))))))))) (fun _ => tt_s h1))))
end WY
end W_80
section W_81
-- 97zzp.any
/-! the class and the reference: calls that only read, whatever they answer -/
def RF (um um' : rg_U) : Prop := (∀ j, j ≤ 30 → j ≠ 25 → um'.2.1 j = um.2.1 j) ∧ ∀ k, k ≤ 34 → um'.1 k = um.1 k
theorem RF_r {um : rg_U} : RF um um := ⟨fun _ _ _ => rfl, fun _ _ => rfl⟩
theorem RF_e {um um' : rg_U} (h : coreEq um um') : RF um um' := ⟨fun j hj _ => h.1 j hj, fun k hk => h.2 k (by omega)⟩
theorem RF_t {u v w : rg_U} (h : RF u v) (h2 : RF v w) : RF u w := ⟨fun j a b => (h2.1 j a b).trans (h.1 j a b), fun k a => (h2.2 k a).trans (h.2 k a)⟩
theorem RF_35 {um : rg_U} {x : Int32} : RF um (sF um 0 35 x) := ⟨fun _ _ _ => rfl, fun k hk => sF_n (by omega)⟩
theorem RF_cS {um : rg_U} {r : Nat} {x : Int32} : RF um (cS um r x) := ⟨fun j _ hj => pm_up_n hj, fun k hk => sF_n (by omega)⟩
section YG
variable {F K W o r : Nat} {u u' uc um uc' um' : rg_U} {x y z v q s n : Int32}
theorem RR_any (h : RR False u um o r) (ha : ∀ j, o < j → j ≤ o + 33 → u'.2.1 j = u.2.1 j) (hf : ∀ k, 100 * o ≤ k → k < 100 * (o + 34) → k ≠ 100 * o + 12 → u'.1 k = u.1 k) (hA : ∀ j, j ≤ 30 → j ≠ 25 → um'.2.1 j = um.2.1 j) : RR False u' um' o r := by
  have eP : Pm um' r = Pm um r := by
    unfold Pm
    rw [hA 6 (by decide) (by decide), hA 7 (by decide) (by decide), hA 8 (by decide) (by decide), hA 9 (by decide) (by decide)]
  have eL : Lm um' r = Lm um r := by
    unfold Lm
    rw [hA 10 (by decide) (by decide), hA 11 (by decide) (by decide), hA 12 (by decide) (by decide), hA 13 (by decide) (by decide), hA 14 (by decide) (by decide)]
  have eH : Hm um' r = Hm um r := by
    unfold Hm
    rw [hA 20 (by decide) (by decide)]
  have en : nr um' r = nr um r := by unfold nr; rw [hA 15 (by decide) (by decide)]
  have eT : Tr um' r = Tr um r := by unfold Tr; rw [hA 21 (by decide) (by decide)]
  have eU : Ur um' r = Ur um r := by unfold Ur; rw [hA 23 (by decide) (by decide)]
  have eD : Dr um' r = Dr um r := by unfold Dr; rw [hA 24 (by decide) (by decide)]
  have eC : Cr um' r = Cr um r := by unfold Cr; rw [hA 19 (by decide) (by decide)]
  have eR : ∀ t, rpm um' r t = rpm um r t := fun t => by
    unfold rpm
    rw [eP, eL, en]
  obtain ⟨h1, h2, h3, h4, h5, ⟨h6, h7, h8, h9⟩, N, h10⟩ := h
  have h10' : RunS u' o (Tr um r) N (fun t => (rpm um r t).1) (fun t => (rpm um r t).2) := by
    obtain ⟨b1, b2, b3, b4, b5⟩ := h10
    refine ⟨(hf _ (by omega) (by omega) (by omega)).trans b1, b2, fun t ht => SI_c (b3 t ht) (fun s _ => by rw [ha (o + 30) (by omega) (by omega)]) (by rw [ha (o + 31) (by omega) (by omega)]) (by rw [ha (o + 32) (by omega) (by omega)]) (by rw [ha (o + 33) (by omega) (by omega)]) (fun _ _ => rfl), PI_c b4 (hf _ (by omega) (by omega) (by omega)) (fun j j1 j2 => ha j (by omega) (by omega)) (ha _ (by omega) (by omega)), fun t ht => ?_⟩
    rw [ha (o + 13) (by omega) (by omega)]
    exact ⟨PRow_c (b5 t ht).1 (fun j j1 j2 => ha j (by omega) (by omega)), (b5 t ht).2⟩
  unfold RR CG HB
  rw [eP, eL, eH, en, eT, eU, eD, eC, eR, hA 16 (by decide) (by decide), hA 17 (by decide) (by decide), hA 18 (by decide) (by decide), hA 26 (by decide) (by decide), hA 27 (by decide) (by decide)]
  refine ⟨fun k hk => ?_, ⟨(hf _ (by omega) (by omega) (by omega)).trans h2.1, fun k hk => ?_⟩, ⟨(hf _ (by omega) (by omega) (by omega)).trans h3.1, fun k hk => ?_⟩, HI_c h4 (hf _ (by omega) (by omega) (by omega)) (hf _ (by omega) (by omega) (by omega)) (hf _ (by omega) (by omega) (by omega)) (ha _ (by omega) (by omega)), h5, ⟨(hf _ (by omega) (by omega) (by omega)).trans h6, (hf _ (by omega) (by omega) (by omega)).trans h7, fun w => w.elim, (hf _ (by omega) (by omega) (by omega)).trans h9⟩, N, RunS_c h10' (fun t _ => by rw [eR]) (fun t _ => by rw [eR])⟩
  · rw [ha (o + 2) (by omega) (by omega), ha (o + 3) (by omega) (by omega), ha (o + 4) (by omega) (by omega), ha (o + 5) (by omega) (by omega)]; exact h1 k hk
  · rw [ha (o + 7) (by omega) (by omega), ha (o + 8) (by omega) (by omega), ha (o + 9) (by omega) (by omega), ha (o + 10) (by omega) (by omega), ha (o + 11) (by omega) (by omega)]; exact h2.2 k hk
  · rw [ha (o + 25) (by omega) (by omega), ha (o + 26) (by omega) (by omega), ha (o + 27) (by omega) (by omega)]; exact h3.2 k hk
theorem Rel_any (h : RelC False uc um) (hm : ∀ K W, okM um K W → okM um' K W) (hr : RF um um') (hw : wyX uc uc') : RelC False uc' um' := by
  obtain ⟨K, W, r1, r2, r3, r4, ⟨s1, s2, s3, s4, s5⟩, r6, r7, r8, r9⟩ := h
  have hK := r1.1.1.2.1
  have cf : ∀ k, (k < 13 ∨ (600 ≤ k ∧ k ≤ 603)) → uc'.1 k = uc.1 k := fun k hk => hw.2.2.2 k (by omega) (by omega) (by omega)
  have e5 := hr.1 5 (by omega) (by omega)
  refine ⟨K, W, hm K W r1, ⟨hw.1, wx_G r2.2 (wy_k hw)⟩, OutR_c r3 (cf _ (by omega)) (cf _ (by omega)) (cf _ (by omega)) (hw.2.2.1 7 (by omega)) (hr.1 29 (by omega) (by omega)) (hr.2 34 (by omega)), WR_c r4 (cf _ (by omega)) (cf _ (by omega)) (hr.1 30 (by omega) (by omega)), ⟨(cf _ (by omega)).trans s1, (cf _ (by omega)).trans (s2.trans (hr.2 _ (by omega)).symm), (cf _ (by omega)).trans (s3.trans (hr.2 _ (by omega)).symm), (cf _ (by omega)).trans (s4.trans (hr.2 _ (by omega)).symm), fun w => w.elim⟩, ?_, fun z k hz hk => ?_, fun h1 => ?_, fun r hr' => ⟨?_, ?_⟩⟩
  · rw [e5, show rG uc' 0 7 = rG uc 0 7 by unfold rG; rw [hw.2.1]]
    exact r6
  · rw [hw.2.2.1 _ (by omega), hr.1 _ (by omega) (by omega)]
    exact r7 z k hz hk
  · rw [e5] at h1
    exact RR_any (r8 h1) (fun j j1 _ => hw.2.2.1 j (by omega)) (fun k k1 k2 k3 => hw.2.2.2 k (by omega) (by omega) (by omega)) hr.1
  · exact RR_any (r9 r hr').1 (fun j j1 _ => hw.2.2.1 j (by omega)) (fun k k1 k2 k3 => hw.2.2.2 k (by omega) (by omega) (by omega)) hr.1
  · rw [hr.1 22 (by omega) (by omega)]
    exact (hw.2.2.2 _ (by omega) (by omega) (by omega)).trans (r9 r hr').2
/-- both return, and what holds of both (but for counts) holds behind it -/
def SW (gc gm : rg_U → Option (Int32 × rg_U)) : Prop := ∀ uc um, RelC False uc um → ∃ zc zm, gc uc = some zc ∧ gm um = some zm ∧ RelC False zc.2 zm.2
/-- the reference's side of a call that only reads -/
def MR (gm : rg_U → Option (Int32 × rg_U)) : Prop := ∀ u K W, okM u K W → ∃ z, gm u = some z ∧ okM z.2 K W ∧ RF u z.2
theorem okM_u {K2 W2 : Nat} (h : okM um K W) (h' : okM um' K W) (hr : RF um um') (h2 : okM um K2 W2) : okM um' K2 W2 := by
  have eK : K2 = K := nI_inj (by have := h2.1.1.2.1; omega) (by have := h.1.1.2.1; omega) (h2.1.1.1.symm.trans h.1.1.1)
  have eW : W2 = W := nI_inj (by have := h2.1.2.2.2.2.2.2.1.2.1; omega) (by have := h.1.2.2.2.2.2.2.1.2.1; omega) (h2.1.2.2.2.2.2.2.1.1.symm.trans h.1.2.2.2.2.2.2.1.1)
  subst eK eW
  exact h'
theorem sw_i {gc gm : rg_U → Option (Int32 × rg_U)} (hc : ∀ u, wkB u → wkG u → Tt (gc u) (fun z => wyX u z.2)) (hm : MR gm) : SW gc gm := fun uc um h => by
  obtain ⟨K, W, r1, r2, -⟩ := id h
  obtain ⟨zc, e1, h1⟩ := hc uc r2.1 r2.2
  obtain ⟨zm, e2, h2, h3⟩ := hm um K W r1
  exact ⟨zc, zm, e1, e2, Rel_any h (fun K2 W2 w => okM_u r1 h2 h3 w) h3 h1⟩
theorem sw_l {gc : rg_U → Option Int32} {gm : rg_U → Option (Int32 × rg_U)} (hc : ∀ u, wkB u → wkG u → Tt (gc u) (fun _ => True)) (hm : MR gm) : SW (lf1 gc) gm := sw_i (fun u h1 h2 => by
  obtain ⟨r, e, -⟩ := hc u h1 h2
  exact ⟨(r, u), by unfold lf1; rw [e, ob_i], wy_r h1⟩) hm
theorem mr_lf {g : rg_U → Option Int32} (h : ∀ u K W, okM u K W → ∃ r, g u = some r) : MR (lf1 g) := fun u K W hu => by
  obtain ⟨r, e⟩ := h u K W hu
  exact ⟨(r, u), by unfold lf1; rw [e, ob_i], hu, RF_r⟩
theorem mr_at (hF : 10000 < F) : MR (g_X10_at F x y z) := fun u K W h => by
  rcases m_at (F := F) (x := x) (y := y) (z := z) h hF with ⟨-, q, w⟩ | ⟨t, p, u', -, -, -, -, -, -, -, q, w, ce⟩
  · exact ⟨_, q, w, RF_35⟩
  · exact ⟨_, q, w, RF_t (RF_t RF_35 RF_cS) (RF_e ce)⟩
theorem mr_state (hF : 10000 < F) : MR (g_X10_state F x y) := fun u K W h => by
  rcases m_state (F := F) (x := x) (y := y) h hF with ⟨-, q, w⟩ | ⟨t, u', -, -, -, -, -, q, w, ce⟩
  · exact ⟨_, q, w, RF_35⟩
  · exact ⟨_, q, w, RF_t (RF_t RF_35 RF_cS) (RF_e ce)⟩
theorem mr_last (hF : 10000 < F) : MR (g_X10_last F x y) := fun u K W h => by
  rcases m_last (F := F) (x := x) (y := y) h hF with ⟨-, q, w⟩ | ⟨t, p, u', -, -, -, -, -, -, q, w, ce⟩
  · exact ⟨_, q, w, RF_35⟩
  · exact ⟨_, q, w, RF_t (RF_t RF_35 RF_cS) (RF_e ce)⟩
theorem mr_when (hF : 10000 < F) : MR (g_X10_when F x y s n) := fun u K W h => by
  rcases m_when (F := F) (x := x) (y := y) (s := s) (n := n) h hF with ⟨-, q, w⟩ | ⟨t, p, u', -, -, -, -, -, -, -, q, w, ce⟩
  · exact ⟨_, q, w, RF_35⟩
  · exact ⟨_, q, w, RF_t (RF_t RF_35 RF_cS) (RF_e ce)⟩
theorem mr_changed (hF : 10000 < F) : MR (g_X10_changed F x y) := fun u K W h => by
  rcases m_changed (F := F) (x := x) (y := y) h hF with ⟨-, q, w⟩ | ⟨t, u', -, -, -, -, -, q, w, ce⟩
  · exact ⟨_, q, w, RF_35⟩
  · exact ⟨_, q, w, RF_t (RF_t RF_35 RF_cS) (RF_e ce)⟩
theorem mr_watched (hF : 10000 < F) : MR (g_X10_watched F x) := fun u K W h => by
  rcases m_watched (F := F) (x := x) h hF with ⟨-, q, w⟩ | ⟨t, u', -, -, -, -, -, q, w, ce⟩
  · exact ⟨_, q, w, RF_35⟩
  · exact ⟨_, q, w, RF_t (RF_t RF_35 RF_cS) (RF_e ce)⟩
theorem mr_rests (hF : 10000 < F) : MR (g_X10_rests F x y z) := fun u K W h => by
  rcases m_rests (F := F) (x := x) (y := y) (z := z) h hF with ⟨-, q⟩ | ⟨t, p, u', -, -, -, -, -, -, q, w, ce⟩
  · exact ⟨_, q, h, RF_r⟩
  · exact ⟨_, q, w, RF_e ce⟩
theorem mr_hangs (hF : 10000 < F) : MR (g_X10_hangs F x y z) := fun u K W h => by
  rcases m_hangs (F := F) (x := x) (y := y) (z := z) h hF with ⟨q, -⟩ | ⟨t, e, u', -, -, -, -, -, -, -, q, w, ce⟩
  · exact ⟨_, q, h, RF_r⟩
  · exact ⟨_, q, w, RF_e ce⟩
theorem mr_history (hF : 10000 < F) : MR (g_X10_history F x y z) := fun u K W h => by
  rcases m_history (F := F) (x := x) (y := y) (z := z) h hF with ⟨-, q⟩ | ⟨p, u', -, -, -, -, -, q, w, ce⟩
  · exact ⟨_, q, h, RF_r⟩
  · exact ⟨_, q, w, RF_e ce⟩
theorem mr_done (hF : 10000 < F) : MR (g_X10_done F x y) := fun u K W h => by
  rcases m_done (F := F) (x := x) (y := y) h hF with ⟨-, q⟩ | ⟨t, u', -, -, -, -, -, q, w, ce⟩
  · exact ⟨_, q, h, RF_r⟩
  · exact ⟨_, q, w, RF_e ce⟩
theorem mr_align (hF : 10000 < F) : MR (g_X10_align F x y) := fun u K W h => by
  rcases m_align (F := F) (x := x) (y := y) h hF with ⟨-, q⟩ | ⟨r1, r2, w, -, -, -, -, q, ce, ok⟩
  · exact ⟨_, q, h, RF_r⟩
  · exact ⟨_, q, ok, RF_e ce⟩
theorem mr_parts (hF : 10000 < F) : MR (g_X10_parts F x y) := fun u K W h => by
  rcases m_parts (F := F) (x := x) (y := y) h hF with ⟨-, q⟩ | ⟨r1, r2, a, w, -, -, -, -, q, -, ce, ok⟩
  · exact ⟨_, q, h, RF_r⟩
  · exact ⟨_, q, ok, RF_e ce⟩
theorem mr_pair (hF : 10000 < F) : MR (g_X10_pair F x y z q) := fun u K W h => by
  rcases m_pair (F := F) (x := x) (y := y) (z := z) (q := q) h hF with ⟨w, e, ok, ce, -⟩ | ⟨r1, r2, k, a, b, w, -, -, -, -, -, -, -, -, e, ok, c1, c2⟩
  · exact ⟨_, e, ok, RF_t RF_35 (RF_e ce)⟩
  · refine ⟨_, e, ok, ?_⟩
    by_cases w2 : 2 ≤ q
    · exact RF_t (RF_t RF_35 (RF_t RF_cS RF_cS)) (RF_e (c2 w2))
    · exact RF_t RF_35 (RF_e (c1 w2))
end YG
theorem wtB_z {u : rg_U} {a : Nat} (h : ∀ i, u.2.1 30 i = 0) : ∀ n, wtB u a n = 0
  | 0 => rfl
  | n + 1 => by
    unfold wtB
    rw [wtB_z h n, h, if_pos rfl]
    rfl
theorem Rel_start : RelC True uL_RunsBack uL_RunsBackModel := by
  have hc := frC_0
  have hm := frM_0
  have f : ∀ s, uL_RunsBackModel.1 s = (mu_none 0).1 s := fun s => by
    show (mu_none 64).1 _ = _
    rw [mu_none_1 64]
  have a : ∀ j i, uL_RunsBackModel.2.1 j i = if j = 1 ∧ i < 64 then -1 else (mu_none 0).2.1 j i := mu_none_a 64 (by decide)
  obtain ⟨K, W, ok⟩ := okA_start
  have eK : K = 0 := nI_inj (b := 0) (by have := ok.1.1.2.1; omega) (by omega) (ok.1.1.1.symm.trans hm.2.1)
  have eW : W = 0 := nI_inj (b := 0) (by have := ok.1.2.2.2.2.2.2.1.2.1; omega) (by omega) (ok.1.2.2.2.2.2.2.1.1.symm.trans hm.2.2.2.1)
  subst eK eW
  have e5 : uL_RunsBackModel.2.1 5 4 = 0 := by
    rw [a, if_neg (by omega)]
    rfl
  have h30 : ∀ i, uL_RunsBackModel.2.1 30 i = 0 := hm.2.2.2.2.2.2.1
  refine ⟨0, 0, ok, okX_start, ⟨0, ⟨rfl, hc.2.2.2.2.2.2.1, by omega, by omega⟩, fun i hi => by omega, hc.2.2.2.2.2.2.2.1.trans hm.2.2.2.2.1.symm⟩, ⟨hc.2.2.2.1.trans (wtB_z h30 8).symm, hc.2.2.2.2.1.trans (wtB_z h30 32).symm⟩, ⟨hc.2.2.1, hc.2.1.trans hm.2.2.1.symm, by rw [f]; rfl, by rw [f]; rfl, fun _ => hc.2.2.2.2.2.1.trans hm.2.2.2.2.2.1.symm⟩, ?_, fun z k hz hk => ?_, fun h1 => ?_, fun r hr => by omega⟩
  · rw [e5, hc.1]
    exact ⟨fun w => (by cases w), fun w => absurd w (by decide)⟩
  · rw [a]
    rcases (show z = 0 ∨ z = 1 ∨ z = 2 ∨ z = 3 by omega) with rfl | rfl | rfl | rfl
    · rw [if_pos ⟨rfl, hk⟩]
      exact hc.2.2.2.2.2.2.2.2.2 k hk
    · rw [if_neg (by omega)]
      rfl
    · rw [if_neg (by omega)]
      rfl
    · rw [if_neg (by omega)]
      rfl
  · rw [e5] at h1
    exact absurd h1 (by decide)
theorem Rel_F {uc um : rg_U} (h : RelC True uc um) : RelC False uc um := by
  have hRR : ∀ {o r}, RR True uc um o r → RR False uc um o r := fun {o r} w => by
    obtain ⟨h1, h2, h3, h4, h5, ⟨h6, h7, h8, h9⟩, N, h10⟩ := w
    exact ⟨h1, h2, h3, h4, h5, ⟨h6, h7, fun w => w.elim, h9⟩, N, h10⟩
  obtain ⟨K, W, r1, r2, r3, r4, ⟨s1, s2, s3, s4, s5⟩, r6, r7, r8, r9⟩ := h
  exact ⟨K, W, r1, r2, r3, r4, ⟨s1, s2, s3, s4, fun w => w.elim⟩, r6, r7, fun h1 => hRR (r8 h1), fun r hr => ⟨hRR (r9 r hr).1, (r9 r hr).2⟩⟩
end W_81
