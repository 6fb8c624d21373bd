/-! the class and the reference: run -/
def FM (um um' : rg_U) : Prop := (∀ k, k ≠ 33 → k ≠ 34 → k ≠ 37 → k ≠ 38 → k ≠ 39 → um'.1 k = um.1 k) ∧ (∀ j, (j < 10 ∨ j = 30) → um'.2.1 j = um.2.1 j) ∧ ∀ r, r < 4 → agR um um' r
theorem agR_r {u : rg_U} {r : Nat} : agR u u r := agR_A (fun _ _ _ => rfl)
theorem FM_r {um : rg_U} : FM um um := ⟨fun _ _ _ _ _ _ => rfl, fun _ _ => rfl, fun _ _ => agR_r⟩
theorem FM_t {u v w : rg_U} (h : FM u v) (h2 : FM v w) : FM u w := ⟨fun k a b c d e => (h2.1 k a b c d e).trans (h.1 k a b c d e), fun j hj => (h2.2.1 j hj).trans (h.2.1 j hj), fun r hr => agR_t (h.2.2 r hr) (h2.2.2 r hr)⟩
theorem FX_r {u : rg_U} {o : Nat} : FX u u o := ⟨rfl, fun _ _ => rfl, fun _ _ => rfl⟩
theorem FX_t {u v w : rg_U} {o : Nat} (h : FX u v o) (h2 : FX v w o) : FX u w o := ⟨h2.1.trans h.1, fun j hj => (h2.2.1 j hj).trans (h.2.1 j hj), fun k hk => (h2.2.2 k hk).trans (h.2.2 k hk)⟩
section YE
variable {pB : Prop} {F K W : Nat} {uc um uc' um' : rg_U} {x : Int32}
theorem c_canStep {o : Nat} (hm : okM um K W) (e5 : um.2.1 5 4 = 1) (hR : RR pB uc um o 4) (hO : OutR uc um W) : g_X7_canStep F o uc = some (if Tr um 4 < 3000 ∧ stM um W = 0 then 1 else 0) := by
  have hro := hm.1.2.2.2.2.1 4 (Or.inr ⟨rfl, e5⟩)
  have hT3 := hro.2.2.2.2.2.2.1.1.2.2.2.1
  obtain ⟨N, hS⟩ := hR.2.2.2.2.2.2
  unfold g_X7_canStep
  rw [hS.1, c_status hm e5 hR hO]
  by_cases q : Tr um 4 < 3000
  · rw [if_neg (show ¬ (3000 : Int32) ≤ nI (Tr um 4) from nI_ge (a := Tr um 4) (b := 3000) q (by decide)), ob_i]
    by_cases z : stM um W = 0
    · rw [if_pos z, if_pos ⟨q, z⟩]
    · rw [if_neg z, if_neg (fun w => z w.2)]
  · rw [if_pos (show (3000 : Int32) ≤ nI (Tr um 4) from nI_le (a := 3000) (b := Tr um 4) (by omega) (by omega)), if_neg (fun w => q w.1)]
theorem run2 {n : Nat} {c : Int32} (hn : n ≤ 500) (hF : 10000 < F) : ∀ (f k W : Nat) (um uc : rg_U), f + k = n → okM um K W → um.2.1 5 4 = 1 → RR pB uc um 116 4 → OutR uc um W → WR uc um → rG uc 0 7 = some 116 → ∀ G, f < G → ∃ j um' uc' W', lp (fun (s : Int32 × rg_U) => g_X10_run_l29 F (nI n) c s.1 s.2) G (nI k, um) = some (nI (k + j), um') ∧ lp (fun (s : (Int32 × Int32 × rg_U)) => g_X9_run_l25 F (nI n) s.1 s.2.1 s.2.2) G (nI k, (if wcS um 40 = c then (1 : Int32) else 0), uc) = some (nI (k + j), uc') ∧ okM um' K W' ∧ um'.2.1 5 4 = 1 ∧ RR pB uc' um' 116 4 ∧ OutR uc' um' W' ∧ FX uc uc' 116 ∧ FM um um'
  | f, k, W, um, uc, hf, h, h1, hR, hO, hW, h7, 0, hG => by omega
  | 0, k, W, um, uc, hf, h, h1, hR, hO, hW, h7, G + 1, hG => by
    refine ⟨0, um, uc, W, lp_r ?_, lp_r ?_, h, h1, hR, hO, FX_r, FM_r⟩
    · unfold g_X10_run_l29
      dsimp only
      rw [if_pos (nI_le (by omega) (by omega))]
      rfl
    · unfold g_X9_run_l25
      dsimp only
      by_cases z : wcS um 40 = c
      · rw [if_pos z, if_neg (by decide), if_pos (nI_le (by omega) (by omega))]
        rfl
      · rw [if_neg z, if_pos rfl]
        rfl
  | f + 1, k, W, um, uc, hf, h, h1, hR, hO, hW, h7, G + 1, hG => by
    have hro := h.1.2.2.2.2.1 4 (Or.inr ⟨rfl, h1⟩)
    have hT3 := Tr3 h.1 (Or.inr ⟨rfl, h1⟩)
    have h01 := h.1.2.2.2.2.2.2.2
    have hr : isRn 116 := Or.inl rfl
    have hb : g_X10_run_l29 F (nI n) c (nI k) um = if stM um W = 0 then (if 3000 ≤ nI (Tr um 4) then some (.inr (nI k, um)) else if wcS um 40 = c then ob (g_X10_goesOn F um) (fun r15 => some (.inl (nI (k + 1), r15))) else some (.inr (nI k, um))) else some (.inr (nI k, um)) := by
      unfold g_X10_run_l29
      rw [if_neg (nI_ge (by omega) (by omega)), m_status h.1 h1, ob_i, ck_t (show inb 4 5 by decide), show rA um 21 4 = nI (Tr um 4) from hro.2.1, m_wch hF, ob_i, nI_1]
    have hc : g_X9_run_l25 F (nI n) (nI k) (if wcS um 40 = c then (1 : Int32) else 0) uc = if wcS um 40 = c then (if Tr um 4 < 3000 ∧ stM um W = 0 then ob (g_X7_step F 116 uc) (fun r14 => om (rG r14 0 7) none (fun o19 => ck (isRn o19) (ob (g_X9_isWatched F (rF r14 o19 11) r14) (fun r21 => if r21 = 0 then (g_X9_run_j81 F (nI n) (nI (k + 1)) 1 r14) else (g_X9_run_j81 F (nI n) (nI (k + 1)) 0 r14))))) else some (.inr (nI k, uc))) else some (.inr (nI k, uc)) := by
      unfold g_X9_run_l25
      by_cases z : wcS um 40 = c
      · rw [if_pos z, if_neg (by decide), if_neg (nI_ge (by omega) (by omega)), h7, if_pos z]
        simp only [om_i]
        rw [ck_t hr, c_canStep h h1 hR hO, ob_i, ck_t hr, nI_1]
        by_cases y : Tr um 4 < 3000 ∧ stM um W = 0
        · rw [if_pos y, if_neg (by decide), if_pos y]
        · rw [if_neg y, if_pos rfl, if_neg y]
      · rw [if_neg z, if_pos rfl, if_neg z]
    have stop : g_X10_run_l29 F (nI n) c (nI k) um = some (.inr (nI k, um)) → g_X9_run_l25 F (nI n) (nI k) (if wcS um 40 = c then (1 : Int32) else 0) uc = some (.inr (nI k, uc)) → ∃ j um' uc' W', lp (fun (s : Int32 × rg_U) => g_X10_run_l29 F (nI n) c s.1 s.2) (G + 1) (nI k, um) = some (nI (k + j), um') ∧ lp (fun (s : (Int32 × Int32 × rg_U)) => g_X9_run_l25 F (nI n) s.1 s.2.1 s.2.2) (G + 1) (nI k, (if wcS um 40 = c then (1 : Int32) else 0), uc) = some (nI (k + j), uc') ∧ okM um' K W' ∧ um'.2.1 5 4 = 1 ∧ RR pB uc' um' 116 4 ∧ OutR uc' um' W' ∧ FX uc uc' 116 ∧ FM um um' := fun e1 e2 => ⟨0, um, uc, W, lp_r e1, lp_r e2, h, h1, hR, hO, FX_r, FM_r⟩
    by_cases q1 : stM um W = 0
    · rw [if_pos q1] at hb
      by_cases q2 : Tr um 4 < 3000
      · rw [if_neg (show ¬ (3000 : Int32) ≤ nI (Tr um 4) from nI_ge (a := Tr um 4) (b := 3000) q2 (by decide))] at hb
        by_cases q3 : wcS um 40 = c
        · rw [if_pos q3] at hb
          rw [if_pos q3, if_pos q3, if_pos (c := Tr um 4 < 3000 ∧ stM um W = 0) ⟨q2, q1⟩] at hc
          obtain ⟨u1, v, W1, n', e1, e2, e3, e4, e5, e6⟩ := m_goesOn h h1 q1 q2 hF
          rw [e1, ob_i] at hb
          obtain ⟨c1, d1, d2, d3, d4, d5⟩ := RR_step (F := F) h h1 q1 q2 hR hO (by omega) e4 e5 e6 hF
          have h30 : u1.2.1 30 = um.2.1 30 := e6.2.2.1 30 (by omega)
          have hW1 : WR c1 u1 := WR_c hW (d4.2.2 _ (by omega)) (d4.2.2 _ (by omega)) h30
          have h71 : rG c1 0 7 = some 116 := by
            unfold rG
            rw [d4.1]
            exact h7
          have hFM : FM um u1 := ⟨fun k a b c d e => e6.2.1 k a b c d e, fun j hj => e6.2.2.1 j (by omega), e6.2.2.2.1⟩
          obtain ⟨j, um', uc', W', g1, g2, g3, g4, g5, g6, g7, g8⟩ := run2 (c := c) hn hF f (k + 1) W1 u1 c1 (by omega) e2 e3 d2 d3 hW1 h71 G (by omega)
          have hon : ob (g_X9_isWatched F (rF c1 116 11) c1) (fun r21 => if r21 = 0 then (g_X9_run_j81 F (nI n) (nI (k + 1)) 1 c1) else (g_X9_run_j81 F (nI n) (nI (k + 1)) 0 c1)) = some (.inl (nI (k + 1), (if wcS u1 40 = c then (1 : Int32) else 0), c1)) := by
            unfold g_X9_run_j81
            rcases d5 with ⟨y1, y2⟩ | ⟨p, y1, y2, y3, y4⟩
            · rw [y1, c_notWatched, ob_i, if_pos rfl, wcS_same h30 y2 40 (Nat.le_refl _), if_pos q3]
            · rw [y2, c_isWatched hW1 (by rw [h30]; exact h01) y1, ob_i, h30, wcS_one (p := p) h30 y4 y3 40 (Nat.le_refl _), q3]
              by_cases y5 : um.2.1 30 p = 0
              · rw [if_pos y5, if_neg (c := p < 40 ∧ ¬ um.2.1 30 p = 0) (fun w => w.2 y5), Int32.add_zero, if_pos rfl]
              · have hne : ¬ c + 1 = c := fun w2 => by
                  have := congrArg (fun t : Int32 => t - c) w2
                  rw [Int32.sub_self, Int32.add_comm, Int32.add_sub_cancel] at this
                  exact absurd this (by decide)
                rw [if_neg y5, if_pos (c := p < 40 ∧ ¬ um.2.1 30 p = 0) ⟨y1, y5⟩, if_neg hne]
          rw [d1, ob_i, h71, om_i, ck_t hr, hon] at hc
          refine ⟨j + 1, um', uc', W', ?_, ?_, g3, g4, g5, g6, FX_t d4 g7, FM_t hFM g8⟩
          · rw [lp_l (body := fun (s : Int32 × rg_U) => g_X10_run_l29 F (nI n) c s.1 s.2) (s := (nI k, um)) hb, g1, show k + 1 + j = k + (j + 1) by omega]
          · rw [if_pos q3, lp_l (body := fun (s : (Int32 × Int32 × rg_U)) => g_X9_run_l25 F (nI n) s.1 s.2.1 s.2.2) (s := (nI k, (1 : Int32), uc)) hc, g2, show k + 1 + j = k + (j + 1) by omega]
        · rw [if_neg q3] at hb
          rw [if_neg q3, if_neg q3] at hc
          exact stop hb (by rw [if_neg q3]; exact hc)
      · rw [if_pos (show (3000 : Int32) ≤ nI (Tr um 4) from nI_le (a := 3000) (by omega) (by omega))] at hb
        refine stop hb ?_
        rw [hc, if_neg (fun z : Tr um 4 < 3000 ∧ stM um W = 0 => q2 z.1)]
        by_cases z : wcS um 40 = c
        · rw [if_pos z]
        · rw [if_neg z]
    · rw [if_neg q1] at hb
      refine stop hb ?_
      rw [hc, if_neg (fun z : Tr um 4 < 3000 ∧ stM um W = 0 => q1 z.2)]
      by_cases z : wcS um 40 = c
      · rw [if_pos z]
      · rw [if_neg z]
theorem sb_run (hF : 10000 < F) : SB pB (g_X9_run F x) (g_X10_run F x) := fun uc um h => by
  obtain ⟨K, W, r1, r2, r3, r4, ⟨s1, s2, s3, s4, s5⟩, r6, r7, r8, r9⟩ := id h
  have hr : isRn 116 := Or.inl rfl
  have hin : ∀ n : Nat, 1 ≤ n → n ≤ 500 → ¬ g_X10_isIn (nI n) 1 500 = 0 := fun n a b => in_nI (a := 1) (b := 500) a b (by decide)
  rcases now_iff r2 r6 r1.1.2.1.1 with ⟨e7, e5⟩ | ⟨e7, e5⟩
  · refine ⟨(-1, uc), (-1, um), ?_, ?_, rfl, h⟩
    · unfold g_X9_run
      rw [e7, om_0]
    · unfold g_X10_run
      rw [ck_t (show inb 4 5 by decide), show rA um 5 4 = um.2.1 5 4 from rfl, if_pos e5]
  · have hm0 : g_X10_run F x um = if g_X10_isIn x 1 500 = 0 then some (-1, um) else ob (g_X10_watchedChanges F um) (fun r4 => ob (lp (fun (s : (Int32 × rg_U)) => g_X10_run_l29 F x r4 s.1 s.2) F ((0 : Int32), um)) (fun r20 => some (r20.1, r20.2))) := by
      unfold g_X10_run
      rw [ck_t (show inb 4 5 by decide), show rA um 5 4 = um.2.1 5 4 from rfl, if_neg (by rw [e5]; decide)]
    have hc0 : g_X9_run F x uc = if x < 1 then some (-1, uc) else if x ≤ 500 then ob (lp (fun (s : (Int32 × Int32 × rg_U)) => g_X9_run_l25 F x s.1 s.2.1 s.2.2) F ((0 : Int32), (1 : Int32), uc)) (fun r27 => some (r27.1, r27.2)) else some (-1, uc) := by
      unfold g_X9_run
      rw [e7, om_i, ck_t hr]
    by_cases z : g_X10_isIn x 1 500 = 0
    · rw [if_pos z] at hm0
      refine ⟨(-1, uc), _, ?_, hm0, rfl, h⟩
      rw [hc0]
      rw [in_0] at z
      by_cases a : x < 1
      · rw [if_pos a]
      · rw [if_neg a, if_neg (fun b => z ⟨by rw [Int32.lt_iff_toInt_lt] at a; rw [Int32.le_iff_toInt_le]; omega, b⟩)]
    · obtain ⟨n, rfl, n1, n2⟩ := in_nat z (by decide)
      have e1 : (1 : Int32).toInt = 1 := rfl
      have e2 : (500 : Int32).toInt = 500 := rfl
      obtain ⟨j, um', uc', W', g1, g2, g3, g4, g5, g6, g7, g8⟩ := run2 (F := F) (K := K) (c := wcS um 40) (n := n) (by omega) hF n 0 W um uc (by omega) r1 e5 (r8 e5) r3 r4 e7 F (by omega)
      rw [Nat.zero_add, if_pos rfl] at g2
      rw [Nat.zero_add] at g1
      have hm1 : g_X10_run F (nI n) um = some (nI j, um') := by
        rw [hm0, if_neg z, m_wch hF, ob_i, show lp (fun (s : Int32 × rg_U) => g_X10_run_l29 F (nI n) (wcS um 40) s.1 s.2) F ((0 : Int32), um) = _ from g1, ob_i]
      have hc1 : g_X9_run F (nI n) uc = some (nI j, uc') := by
        rw [hc0, if_neg (show ¬ nI n < 1 from nI_nlt (a := n) (b := 1) (by omega) (by omega)), if_pos (show nI n ≤ 500 from nI_le (a := n) (b := 500) (by omega) (by decide)), show lp (fun (s : (Int32 × Int32 × rg_U)) => g_X9_run_l25 F (nI n) s.1 s.2.1 s.2.2) F ((0 : Int32), (1 : Int32), uc) = _ from g2, ob_i]
      have cf : ∀ k, (k < 601 ∨ 15000 ≤ k) → uc'.1 k = uc.1 k := fun k hk => g7.2.2 k (by omega)
      have ca : ∀ j, (j < 116 ∨ 150 ≤ j) → uc'.2.1 j = uc.2.1 j := fun j hj => g7.2.1 j (by omega)
      have mf : ∀ k, k ≤ 36 → k ≠ 33 → k ≠ 34 → um'.1 k = um.1 k := fun k k1 k2 k3 => g8.1 k k2 k3 (by omega) (by omega) (by omega)
      refine ⟨_, _, hc1, hm1, rfl, K, W', g3, okX_k r2 (wk_run (wx_r r2.1) r2.2 hF) hc1, g6, WR_c r4 (cf _ (by omega)) (cf _ (by omega)) (g8.2.1 30 (by omega)), ⟨(cf _ (by omega)).trans s1, (cf _ (by omega)).trans (s2.trans (mf _ (by omega) (by omega) (by omega)).symm), (cf _ (by omega)).trans (s3.trans (mf _ (by omega) (by omega) (by omega)).symm), (cf _ (by omega)).trans (s4.trans (mf _ (by omega) (by omega) (by omega)).symm), fun hb => (cf _ (by omega)).trans ((s5 hb).trans (mf _ (by omega) (by omega) (by omega)).symm)⟩, ?_, fun z' k hz hk => ?_, fun _ => g5, Rel_kept r1 r9 (fun j hj => ca j (by omega)) (fun k hk => cf k (by omega)) g8.2.2⟩
      · rw [show rG uc' 0 7 = rG uc 0 7 by unfold rG; rw [g7.1], g4]
        exact ⟨fun _ => rfl, fun _ => e7⟩
      · rw [ca _ (by omega), g8.2.1 _ (by omega)]
        exact r7 z' k hz hk
end YE
