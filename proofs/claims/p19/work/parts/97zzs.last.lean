/-! the class and the reference: last, watched -/
section YJ
variable {pB : Prop} {F K W o r t p q T N : Nat} {u uc um uc' um' : rg_U} {x y z v : Int32}
theorem c_since (hR : RR pB uc um o r) (ht : t ≤ Tr um r) (hp : p < 40) (hT3 : Tr um r ≤ 3000) (hv : ¬ (rpm um r t).1 (80 + p) = 0) (hF : 10000 < F) : ∃ n s, g_X6_putBy F (o + 12) (nI t) (nI p) uc = some n ∧ g_X6_changesOf F (o + 12) n uc = some ((rpm um r t).1 (80 + p)) ∧ g_X6_changedSince F (o + 12) n uc = some (nI s) ∧ s ≤ Tr um r ∧ ∀ m, m ≤ t → ((rpm um r m).1 (80 + p) = (rpm um r t).1 (80 + p) ↔ s ≤ m) := by
  obtain ⟨N, hS⟩ := hR.2.2.2.2.2.2
  have hP := hS.2.2.2.1
  have hrow : ∀ m, m ≤ Tr um r → vS (uc.2.1 (o + 12 + 5)) 0 (lat (uc.2.1 (o + 12 + 2)) p (cP (uc.2.1 (o + 12 + 1)) m N)) = (rpm um r m).1 (80 + p) := fun m hm => by
    have w := (hS.2.2.2.2 m hm).1 p hp
    dsimp only at w
    rw [show o + 13 = o + 12 + 1 from rfl] at w
    exact w.2.2.symm
  have hpt : isPt N (lat (uc.2.1 (o + 12 + 2)) p (cP (uc.2.1 (o + 12 + 1)) t N)) := lat_ok (cP_le N)
  rcases id hpt with e | ⟨a0, ha0, e⟩
  · have := hrow t ht
    rw [e, vS_0] at this
    exact absurd this.symm hv
  · obtain ⟨s, s1, s2, s3⟩ := c_changedSince (F := F) (t := t) hP hp e ha0 (by rw [← e, hrow t ht]; exact hv) hF
    refine ⟨nI a0, s, ?_, ?_, s2, s1, fun m hm => ?_⟩
    · rw [← e]; exact c_putBy hP hp (by omega) hF
    · rw [← e, x6_changes hP.1 hP.2.1 hpt, hrow t ht]
    · rw [← hrow m (by omega), ← hrow t ht, e]
      exact s3 m hm
theorem c_hv {s : Nat} {c : Int32} (hR : RR pB uc um o r) (hro : runOK um r) (ho : 116 ≤ o) (hF : 10000 < F) (hT : T ≤ Tr um r) (hT3 : T ≤ 3000) (hs3 : s ≤ 3000) (hs : ∀ m, m ≤ T → ((rpm um r m).1 (80 + p) = c ↔ s ≤ m)) : ∀ (f lo hi k : Nat), hi ≤ T → hi - lo ≤ f → lo ≤ hi → ∀ G, f < G → lp (fun (z : Int32 × Int32 × rg_U) => g_X9_lastChange_l48 F o (nI s) z.1 z.2.1 z.2.2) G (nI lo, nI hi, cSc uc o (nI k)) = some (nI (hvg (fun m => (rpm um r m).1 (80 + p) = c) (costM um r) f lo hi).1, cSc uc o (nI (k + (hvg (fun m => (rpm um r m).1 (80 + p) = c) (costM um r) f lo hi).2)))
  | f, lo, hi, k, h1, h2, h3, G, hG => by
    match G, hG with
    | 0, hG => omega
    | G + 1, hG =>
    by_cases q : lo < hi
    · match f, h2, hG with
      | 0, h2, hG => omega
      | f + 1, h2, hG =>
        have hb : g_X9_lastChange_l48 F o (nI s) (nI lo) (nI hi) (cSc uc o (nI k)) = if s ≤ (lo + hi) / 2 then some (.inl (nI lo, nI ((lo + hi) / 2), cSc uc o (nI (k + costM um r ((lo + hi) / 2))))) else some (.inl (nI ((lo + hi) / 2 + 1), nI hi, cSc uc o (nI (k + costM um r ((lo + hi) / 2))))) := by
          unfold g_X9_lastChange_l48 g_X9_lastChange_j91
          rw [if_neg (nI_ge q (by omega)), nI_add, show nI (lo + hi) / 2 = nI ((lo + hi) / 2) from pk_div (d := 2) (by omega) (by decide) (by decide), c_replayX hR hro (by omega) ho hF, ob_i, nI_1]
          by_cases z : s ≤ (lo + hi) / 2
          · rw [if_neg (nI_nlt z (by omega)), if_pos z]
          · rw [if_pos (nI_lt (by omega) (by omega)), if_neg z]
        have hc := hs ((lo + hi) / 2) (by omega)
        by_cases z : s ≤ (lo + hi) / 2
        · rw [if_pos z] at hb
          rw [lp_l (body := fun (z : Int32 × Int32 × rg_U) => g_X9_lastChange_l48 F o (nI s) z.1 z.2.1 z.2.2) (s := (nI lo, nI hi, cSc uc o (nI k))) hb, hvg_y (c := fun m => (rpm um r m).1 (80 + p) = c) q (hc.mpr z), c_hv hR hro ho hF hT hT3 hs3 hs f lo ((lo + hi) / 2) (k + costM um r ((lo + hi) / 2)) (by omega) (by omega) (by omega) G (by omega)]
          dsimp only
          rw [← Nat.add_assoc]
        · rw [if_neg z] at hb
          rw [lp_l (body := fun (z : Int32 × Int32 × rg_U) => g_X9_lastChange_l48 F o (nI s) z.1 z.2.1 z.2.2) (s := (nI lo, nI hi, cSc uc o (nI k))) hb, hvg_n (c := fun m => (rpm um r m).1 (80 + p) = c) q (fun w => z (hc.mp w)), c_hv hR hro ho hF hT hT3 hs3 hs f ((lo + hi) / 2 + 1) hi (k + costM um r ((lo + hi) / 2)) (by omega) (by omega) (by omega) G (by omega)]
          dsimp only
          rw [← Nat.add_assoc]
    · have hb : g_X9_lastChange_l48 F o (nI s) (nI lo) (nI hi) (cSc uc o (nI k)) = some (.inr (nI lo, cSc uc o (nI k))) := by
        unfold g_X9_lastChange_l48
        rw [if_pos (nI_le (by omega) (by omega))]
      have he : hvg (fun m => (rpm um r m).1 (80 + p) = c) (costM um r) f lo hi = (lo, 0) := by
        cases f with
        | zero => rfl
        | succ f => exact if_neg q
      rw [lp_r (body := fun (z : Int32 × Int32 × rg_U) => g_X9_lastChange_l48 F o (nI s) z.1 z.2.1 z.2.2) (s := (nI lo, nI hi, cSc uc o (nI k))) hb, he]
      rfl
theorem c_lastChange {k : Nat} (hR : RR pB uc um o r) (hro : runOK um r) (ht : t ≤ Tr um r) (hp : p < 40) (hT3 : Tr um r ≤ 3000) (ho : 116 ≤ o) (hF : 10000 < F) : g_X9_lastChange F o (nI t) (nI p) (cSc uc o (nI k)) = some (laA um r t p, cSc uc o (nI (k + laC um r t p))) := by
  unfold g_X9_lastChange
  rw [c_replayX hR hro ht ho hF, ob_i]
  unfold laA laC
  by_cases q : (rpm um r t).1 (80 + p) = 0
  · obtain ⟨n, b1, b2⟩ := c_readX (F := F) (k := k + costM um r t) (p := p) hR ht hp hT3 ho hF
    rw [b1, ob_i, b2, ob_i, if_pos q, if_pos q, if_pos q, Nat.add_zero]
  · obtain ⟨n, s, b1, b2, b3, b4, b5⟩ := c_since (F := F) (RR_x hR ho (nI (k + costM um r t))) ht hp hT3 (by rw [rpm_cS]; exact q) hF
    have b4' : s ≤ Tr um r := b4
    rw [rpm_cS] at b2
    rw [b1, ob_i, b2, ob_i, if_neg q, if_neg q, if_neg q, b3, ob_i]
    have h := c_hv (F := F) (s := s) (p := p) (c := (rpm um r t).1 (80 + p)) (T := t) hR hro ho hF ht (by omega) (by omega) (fun m hm => by
      have w := b5 m hm
      rw [rpm_cS, rpm_cS] at w
      exact w) t 0 t (k + costM um r t) (Nat.le_refl _) (by omega) (by omega) F (by omega)
    rw [show nI 0 = (0 : Int32) from rfl] at h
    rw [h, ob_i, Nat.add_assoc]
theorem sr_last (hF : 10000 < F) : SB pB (g_X9_last F x y) (g_X10_last F x y) := fun uc um h => by
  obtain ⟨K, W, r1, -⟩ := id h
  have h0 := Rel_zero h
  have m0 : okM (sF um 0 35 0) K W := okM_34 (by omega) r1
  have eA : aR (sF um 0 35 0) = aR um := rfl
  unfold g_X9_last
  rw [lt1_i]
  rcases Rel_ask (F := F) h0 m0 with ⟨e5, en⟩ | ⟨ea, e5, h5, en, hR⟩
  · rw [en, ob_i, om_0]
    rcases m_last (F := F) (x := x) (y := y) r1 hF with ⟨-, q, -⟩ | ⟨t, p, u', -, w, -⟩
    · exact ⟨_, _, rfl, q, rfl, h0⟩
    · rw [show um.2.1 5 (aR um) = 0 from e5] at w
      exact absurd w (by decide)
  · have hro := m0.1.2.2.2.2.1 _ ea
    have hT3 := hro.2.2.2.2.2.2.1.1.2.2.2.1
    rw [eA] at *
    obtain ⟨N, hS⟩ := hR.2.2.2.2.2.2
    rw [en, ob_i, om_i, ck_t (oR_rn h5), cl_place]
    have bad : ¬ (isTm um x ∧ ¬ g_X10_isPlace y = 0) → ∃ zm, g_X10_last F x y um = some zm ∧ (-2 : Int32) = zm.1 ∧ RelC pB (sF uc 0 13 0) zm.2 := fun hb => by
      rcases m_last (F := F) (x := x) (y := y) r1 hF with ⟨-, q, -⟩ | ⟨t, p, u', -, w1, w2, w3, w4, w5, -⟩
      · exact ⟨_, q, rfl, h0⟩
      · exact absurd ⟨⟨w1, t, w2, w3⟩, by rw [w5]; exact in_nI (a := 0) (b := 39) (by omega) (by omega) (by decide)⟩ hb
    rcases x7_hasI (F := F) (x := x) hS.1 hT3 with ⟨q1, q2⟩ | ⟨t, ht, rfl, q1⟩
    · rw [q1, ob_i, if_pos rfl]
      obtain ⟨zm, b1, b2, b3⟩ := bad (fun w => q2 w.1.2)
      exact ⟨_, zm, rfl, b1, b2, b3⟩
    · rw [q1, ob_i, if_neg (by decide)]
      by_cases q2 : g_X10_isPlace y = 0
      · rw [if_pos q2]
        obtain ⟨zm, b1, b2, b3⟩ := bad (fun w => w.2 q2)
        exact ⟨_, zm, rfl, b1, b2, b3⟩
      · rw [if_neg q2]
        rcases m_last (F := F) (x := nI t) (y := y) r1 hF with ⟨w, -⟩ | ⟨t2, p, u', w0, w1, w2, w3, w4, w5, q, hok, hce⟩
        · exact absurd ⟨⟨e5, t, ht, rfl⟩, q2⟩ w
        · have et : t2 = t := nI_inj (by have : Tr um (aR um) ≤ 3000 := hT3; omega) (by have : Tr um (aR um) ≤ 3000 := hT3; have : t ≤ Tr um (aR um) := ht; omega) w3.symm
          subst et
          have hl := c_lastChange (F := F) (k := 0) (t := t2) (p := p) hR hro ht w4 hT3 oR_ge hF
          have el : laA (sF um 0 35 0) (aR um) t2 p = laA um (aR um) t2 p := rfl
          have ec : laC (sF um 0 35 0) (aR um) t2 p = laC um (aR um) t2 p := rfl
          rw [show nI 0 = (0 : Int32) from rfl, cSc_0, Nat.zero_add, el, ec] at hl
          rw [w5] at q
          rw [w5, hl, ob_i]
          exact ⟨_, _, rfl, q, rfl, Rel_e (Rel_cS h0 m0 ea) ⟨core_cS m0.1, simM_cS m0.2⟩ hce hok⟩
theorem sr_watched (hF : 10000 < F) : SB pB (g_X9_watched F x) (g_X10_watched F x) := fun uc um h => by
  obtain ⟨K, W, r1, -⟩ := id h
  have h0 := Rel_zero h
  have m0 : okM (sF um 0 35 0) K W := okM_34 (by omega) r1
  have eA : aR (sF um 0 35 0) = aR um := rfl
  have hW : WR uc um := by
    obtain ⟨K2, W2, -, -, -, w, -⟩ := id h
    exact w
  have h01 : ∀ p, p < 40 → um.2.1 30 p = 0 ∨ um.2.1 30 p = 1 := r1.1.2.2.2.2.2.2.2
  unfold g_X9_watched
  rw [lt1_i]
  rcases Rel_ask (F := F) h0 m0 with ⟨e5, en⟩ | ⟨ea, e5, h5, en, hR⟩
  · rw [en, ob_i, om_0]
    rcases m_watched (F := F) (x := x) r1 hF with ⟨-, q, -⟩ | ⟨t, u', -, w, -⟩
    · exact ⟨_, _, rfl, q, rfl, h0⟩
    · rw [show um.2.1 5 (aR um) = 0 from e5] at w
      exact absurd w (by decide)
  · have hro := m0.1.2.2.2.2.1 _ ea
    have hT3 := hro.2.2.2.2.2.2.1.1.2.2.2.1
    rw [eA] at *
    have hT3' : Tr um (aR um) ≤ 3000 := hT3
    obtain ⟨N, hS⟩ := hR.2.2.2.2.2.2
    have h9 : rF (sF uc 0 13 0) (oR (aR um)) 9 = nI (Tr um (aR um)) := hS.1
    rw [en, ob_i, om_i, ck_t (oR_rn h5), h9]
    have bad : ¬ (∃ t, 1 ≤ t ∧ t ≤ Tr um (aR um) ∧ x = nI t) → ∃ zm, g_X10_watched F x um = some zm ∧ (-2 : Int32) = zm.1 ∧ RelC pB (sF uc 0 13 0) zm.2 := fun hb => by
      rcases m_watched (F := F) (x := x) r1 hF with ⟨-, q, -⟩ | ⟨t, u', -, w1, w2, w3, w4, -⟩
      · exact ⟨_, q, rfl, h0⟩
      · exact absurd ⟨t, w2, w3, w4⟩ hb
    by_cases q1 : x < 1
    · rw [if_pos q1]
      obtain ⟨zm, b1, b2, b3⟩ := bad (fun ⟨t, a1, a2, a3⟩ => by
        rw [a3] at q1
        exact nI_nlt (a := t) (b := 1) a1 (by omega) q1)
      exact ⟨_, zm, rfl, b1, b2, b3⟩
    rw [if_neg q1]
    have q0 : ¬ x < 0 := by
      intro w
      rw [Int32.lt_iff_toInt_lt] at w q1
      have e1 : (1 : Int32).toInt = 1 := rfl
      have e0 : (0 : Int32).toInt = 0 := rfl
      omega
    obtain ⟨t, ht31, rfl⟩ := nI_of q0
    have ht1 : 1 ≤ t := by
      rcases Nat.eq_zero_or_pos t with z | z
      · subst z; exact absurd (by decide) q1
      · exact z
    by_cases q2 : t ≤ Tr um (aR um)
    · rw [if_pos (nI_le q2 (by omega))]
      rcases m_watched (F := F) (x := nI t) r1 hF with ⟨w, -⟩ | ⟨t2, u', w0, w1, w2, w3, w4, q, hok, hce⟩
      · exact absurd ⟨q1, e5, t, q2, rfl⟩ w
      · have et : t2 = t := nI_inj (by omega) ht31 w4.symm
        subst et
        have ho := oR_ge (r := aR um)
        have h := lp_up (body := fun (s : Int32 × Int32 × rg_U) => g_X9_watched_l39 F (oR (aR um)) (nI t2) s.1 s.2.1 s.2.2) (fun i => ((wtA um (aR um) (t2 - 1) i).1, nI i, cSc (sF uc 0 13 0) (oR (aR um)) (nI (wtA um (aR um) (t2 - 1) i).2))) 40 ((wtA um (aR um) (t2 - 1) 40).1, cSc (sF uc 0 13 0) (oR (aR um)) (nI (wtA um (aR um) (t2 - 1) 40).2)) (fun i hi => by
          show g_X9_watched_l39 F (oR (aR um)) (nI t2) (wtA um (aR um) (t2 - 1) i).1 (nI i) (cSc (sF uc 0 13 0) (oR (aR um)) (nI (wtA um (aR um) (t2 - 1) i).2)) = _
          have hw : g_X9_isWatched F (nI i) (cSc (sF uc 0 13 0) (oR (aR um)) (nI (wtA um (aR um) (t2 - 1) i).2)) = some (um.2.1 30 i) := c_isWatched (WR_c hW ((sF_n (by omega)).trans ((sF_n (by omega)).trans (sF_n (by omega)))) ((sF_n (by omega)).trans ((sF_n (by omega)).trans (sF_n (by omega)))) rfl) h01 hi
          unfold g_X9_watched_l39 g_X9_watched_j70
          rw [if_neg (show ¬ (40 : Int32) ≤ nI i from nI_ge (a := i) (b := 40) (by omega) (by decide)), hw, ob_i, nI_1]
          by_cases z : um.2.1 30 i = 0
          · have ew : wtA um (aR um) (t2 - 1) (i + 1) = wtA um (aR um) (t2 - 1) i := if_pos z
            rw [if_pos z, ew]
          · have ew : wtA um (aR um) (t2 - 1) (i + 1) = (imax (wtA um (aR um) (t2 - 1) i).1 (laA um (aR um) (t2 - 1) i), (wtA um (aR um) (t2 - 1) i).2 + laC um (aR um) (t2 - 1) i) := if_neg z
            have hl := c_lastChange (F := F) (k := (wtA um (aR um) (t2 - 1) i).2) (t := t2 - 1) (p := i) hR hro (show t2 - 1 ≤ Tr um (aR um) by omega) hi hT3 ho hF
            have el : laA (sF um 0 35 0) (aR um) (t2 - 1) i = laA um (aR um) (t2 - 1) i := rfl
            have ec : laC (sF um 0 35 0) (aR um) (t2 - 1) i = laC um (aR um) (t2 - 1) i := rfl
            rw [el, ec] at hl
            rw [if_neg z, show nI t2 - 1 = nI (t2 - 1) from nI_sub (a := t2) (b := 1) ht1, hl, ob_i]
            dsimp only
            rw [ew]) (by
          show g_X9_watched_l39 F (oR (aR um)) (nI t2) _ (nI 40) _ = _
          unfold g_X9_watched_l39
          rw [if_pos (by decide)]) F 0 (by omega) (by omega)
        have e0 : ((wtA um (aR um) (t2 - 1) 0).1, nI 0, cSc (sF uc 0 13 0) (oR (aR um)) (nI (wtA um (aR um) (t2 - 1) 0).2)) = ((-1 : Int32), (0 : Int32), sF uc 0 13 0) := by
          show ((-1 : Int32), nI 0, cSc (sF uc 0 13 0) (oR (aR um)) (nI 0)) = _
          rw [show nI 0 = (0 : Int32) from rfl, cSc_0]
        rw [e0] at h
        rw [h, ob_i]
        exact ⟨_, _, rfl, q, rfl, Rel_e (Rel_cS h0 m0 ea) ⟨core_cS m0.1, simM_cS m0.2⟩ hce hok⟩
    · rw [if_neg (nI_ge (by omega) ht31)]
      obtain ⟨zm, b1, b2, b3⟩ := bad (fun ⟨t', a1, a2, a3⟩ => by
        have := nI_inj ht31 (by omega) a3
        omega)
      exact ⟨_, zm, rfl, b1, b2, b3⟩
end YJ
