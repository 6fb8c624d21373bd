/-! the class and the reference: what holds of both, and the small calls -/
def RelC (pB : Prop) (uc um : rg_U) : Prop := ∃ K W, okM um K W ∧ okX uc ∧ OutR uc um W ∧ WR uc um ∧ (rF uc 0 6 = nI K ∧ rF uc 0 8 = um.1 30 ∧ rF uc 0 9 = um.1 4 ∧ rF uc 0 10 = um.1 5 ∧ (pB → rF uc 0 13 = um.1 35)) ∧ (rG uc 0 7 = some 116 ↔ um.2.1 5 4 = 1) ∧ (∀ z k, z < 4 → k < 64 → uc.2.1 (2 + z) k = um.2.1 (1 + z) k) ∧ (um.2.1 5 4 = 1 → RR pB uc um 116 4) ∧ ∀ r, r < K → RR pB uc um (151 + 34 * r) r ∧ rF uc (151 + 34 * r) 14 = um.2.1 22 r
/-- both return, answer the same, and what holds of both holds behind it -/
def SB (pB : Prop) (gc gm : rg_U → Option (Int32 × rg_U)) : Prop := ∀ uc um, RelC pB uc um → ∃ zc zm, gc uc = some zc ∧ gm um = some zm ∧ zc.1 = zm.1 ∧ RelC pB zc.2 zm.2
section YC
variable {pB : Prop} {F K W : Nat} {uc um uc' um' : rg_U} {x y z v a b c d e : Int32}
theorem tt_get {α : Type} {x : Option α} {y : α} {P : α → Prop} (h : Tt x P) (e : x = some y) : P y := by
  obtain ⟨r, e2, hr⟩ := h
  rw [e] at e2
  cases e2
  exact hr
theorem Cr100 (h : coreM um K W) {r : Nat} (hr : act um K r) : Cr um r ≤ 100 := (h.2.2.2.2.1 r hr).2.2.2.2.2.2.2.2.1
/-- the kept runs stay -/
theorem Rel_kept (hm : okM um K W) (h : ∀ r, r < K → RR pB uc um (151 + 34 * r) r ∧ rF uc (151 + 34 * r) 14 = um.2.1 22 r) (ha : ∀ j, 150 ≤ j → uc'.2.1 j = uc.2.1 j) (hf : ∀ k, 15000 ≤ k → uc'.1 k = uc.1 k) (hg : ∀ r, r < 4 → agR um um' r) : ∀ r, r < K → RR pB uc' um' (151 + 34 * r) r ∧ rF uc' (151 + 34 * r) 14 = um'.2.1 22 r := fun r hr => by
  have hK := hm.1.1.2.1
  obtain ⟨h1, h2⟩ := h r hr
  refine ⟨RR_f (RR_g h1 (Cr100 hm.1 (Or.inl hr)) (hg r (by omega))) (fun j j1 _ => ha j (by omega)) (fun k k1 _ => hf k (by omega)), ?_⟩
  rw [(hg r (by omega)).2.2.1 22 (Or.inr (Or.inr (by decide)))]
  exact (hf _ (by omega)).trans h2
theorem OutR_c (h : OutR uc um W) (h1 : uc'.1 601 = uc.1 601) (h2 : uc'.1 602 = uc.1 602) (h3 : uc'.1 603 = uc.1 603) (h7 : uc'.2.1 7 = uc.2.1 7) (h29 : um'.2.1 29 = um.2.1 29) (h34 : um'.1 34 = um.1 34) : OutR uc' um' W := by
  obtain ⟨A, o1, o2, o3⟩ := h
  refine ⟨A, ⟨h1.trans o1.1, h2.trans o1.2.1, o1.2.2⟩, fun i hi => ?_, ?_⟩
  · unfold wt9
    rw [h7, h29]
    exact o2 i hi
  · rw [h34]
    exact h3.trans o3
theorem WR_c (h : WR uc um) (h1 : uc'.1 11 = uc.1 11) (h2 : uc'.1 12 = uc.1 12) (h30 : um'.2.1 30 = um.2.1 30) : WR uc' um' := ⟨h1.trans (h.1.trans (wtB_c h30 8).symm), h2.trans (h.2.trans (wtB_c h30 32).symm)⟩
/-- small changes on both sides, none of them in a run -/
theorem Rel_small {K' : Nat} (h : RelC pB uc um) (hm : ∀ K W, okM um K W → okM um' K W) (hX : okX uc') (ha : ∀ j, 6 ≤ j → uc'.2.1 j = uc.2.1 j) (hf : ∀ k, 100 ≤ k → uc'.1 k = uc.1 k) (hA : ∀ j, 5 ≤ j → j ≤ 29 → um'.2.1 j = um.2.1 j) (hF : ∀ k, 6 ≤ k → k ≤ 34 → k ≠ 30 → um'.1 k = um.1 k) (hG : uc'.2.2.1 7 = uc.2.2.1 7) (hW : WR uc' um') (h6 : rF uc' 0 6 = rF uc 0 6) (h8 : rF uc' 0 8 = um'.1 30) (h9 : rF uc' 0 9 = um'.1 4) (h10 : rF uc' 0 10 = um'.1 5) (h13 : pB → rF uc' 0 13 = um'.1 35) (hp : ∀ z k, z < 4 → k < 64 → uc'.2.1 (2 + z) k = um'.2.1 (1 + z) k) : RelC pB uc' um' := by
  obtain ⟨K, W, r1, r2, r3, r4, ⟨s1, s2, s3, s4, s5⟩, r6, r7, r8, r9⟩ := h
  have e5 := hA 5 (by omega) (by omega)
  have hg : ∀ r, agR um um' r := fun r => agR_A (fun j j1 j2 => hA j (by omega) (by omega))
  refine ⟨K, W, hm K W r1, hX, OutR_c r3 (hf _ (by omega)) (hf _ (by omega)) (hf _ (by omega)) (ha 7 (by omega)) (hA 29 (by omega) (by omega)) (hF 34 (by omega) (by omega) (by omega)), hW, ⟨h6.trans s1, h8, h9, h10, h13⟩, ?_, hp, fun h1 => ?_, Rel_kept r1 r9 (fun j hj => ha j (by omega)) (fun k hk => hf k (by omega)) (fun r _ => hg r)⟩
  · rw [e5, show rG uc' 0 7 = rG uc 0 7 from hG]
    exact r6
  · rw [e5] at h1
    exact RR_f (RR_g (r8 h1) (Cr100 r1.1 (Or.inr ⟨rfl, h1⟩)) (hg 4)) (fun j j1 _ => ha j (by omega)) (fun k k1 _ => hf k (by omega))
theorem wr4_at {u : rg_U} {j k i z : Nat} {x a b c : Int32} (hz : z < 4) : (wr4 u j k x a b c).2.1 (j + z) i = if i = k then (if z = 0 then x else if z = 1 then a else if z = 2 then b else c) else u.2.1 (j + z) i := by
  unfold wr4
  rw [R_at, R_at, R_at, R_at]
  by_cases q : i = k
  · subst q
    rcases (show z = 0 ∨ z = 1 ∨ z = 2 ∨ z = 3 by omega) with rfl | rfl | rfl | rfl <;> simp
  · rw [if_neg (fun y => q y.2), if_neg (fun y => q y.2), if_neg (fun y => q y.2), if_neg (fun y => q y.2), if_neg q]
theorem sb_code : SB pB (g_X9_code F a b c d e) (g_X10_code F a b c d e) := fun uc um h => by
  obtain ⟨K, W, r1, r2, r3, r4, ⟨s1, s2, s3, s4, s5⟩, r6, r7, r8, r9⟩ := id h
  rcases c_code (F := F) (a := a) (b := b) (c := c) (d := d) (e := e) (u := uc) with ⟨n1, q1⟩ | ⟨k, hk, ek, y1, q1⟩ <;> rcases m_code (F := F) (a1 := a) (a2 := b) (a3 := c) (a4 := d) (a5 := e) r1 with ⟨n2, q2⟩ | ⟨k2, hk2, ek2, y2, q2, hok⟩
  · exact ⟨_, _, q1, q2, rfl, h⟩
  · rcases n1 with z | z
    · rw [ek2] at z
      exact absurd z (in_nI (a := 0) (b := 63) (by omega) (by omega) (by decide))
    · exact absurd z y2
  · rcases n2 with z | z
    · rw [ek] at z
      exact absurd z (in_nI (a := 0) (b := 63) (by omega) (by omega) (by decide))
    · exact absurd z y1
  · have ekk : k = k2 := nI_inj (by omega) (by omega) (ek.symm.trans ek2)
    subst ekk
    refine ⟨_, _, q1, q2, rfl, Rel_small (K' := K) h (fun K W hm => ?_) (okX_s r2 rfl rfl) (fun j hj => wr4_n (by omega)) (fun _ _ => rfl) (fun j j1 j2 => wr4_n (by omega)) (fun _ _ _ _ => rfl) rfl (WR_c r4 rfl rfl (wr4_n (by omega))) rfl s2 s3 s4 s5 (fun z i hz hi => ?_)⟩
    · rcases m_code (F := F) (a1 := a) (a2 := b) (a3 := c) (a4 := d) (a5 := e) hm with ⟨n2, q3⟩ | ⟨k3, hk3, ek3, y3, q3, hok3⟩
      · rw [q2] at q3
        have := congrArg (fun o : Option (Int32 × rg_U) => o.map (fun p => p.1)) q3
        exact absurd (show (1 : Int32) = 0 from Option.some.inj this) (by decide)
      · have e3 : k3 = k := nI_inj (by omega) (by omega) (ek3.symm.trans ek2)
        subst e3
        exact hok3
    · rw [wr4_at hz, wr4_at hz, r7 z i hz hi]
theorem sb_spacing : SB pB (g_X9_spacing F x y) (g_X10_spacing F x y) := fun uc um h => by
  obtain ⟨K, W, r1, r2, r3, r4, ⟨s1, s2, s3, s4, s5⟩, r6, r7, r8, r9⟩ := id h
  rcases c_spacing (F := F) (x := x) (y := y) (u := uc) with ⟨n1, q1⟩ | ⟨y1, q1⟩ <;> rcases m_spacing (F := F) (x := x) (y := y) r1 with ⟨n2, q2⟩ | ⟨y2, q2, hok⟩
  · exact ⟨_, _, q1, q2, rfl, h⟩
  · exact absurd n1 y2
  · exact absurd n2 y1
  · refine ⟨_, _, q1, q2, rfl, Rel_small (K' := K) h (fun K W hm => ?_) (okX_n (okX_n r2 (by decide)) (by decide)) (fun _ _ => rfl) (fun k hk => by rw [sF_n (by omega), sF_n (by omega)]) (fun _ _ _ => rfl) (fun k k1 k2 _ => by rw [sF_n (by omega), sF_n (by omega)]) rfl (WR_c r4 (by rw [sF_n (by omega), sF_n (by omega)]) (by rw [sF_n (by omega), sF_n (by omega)]) rfl) ?_ ?_ ?_ ?_ ?_ r7⟩
    · rcases m_spacing (F := F) (x := x) (y := y) hm with ⟨n2, -⟩ | ⟨-, -, hok3⟩
      · exact absurd n2 y2
      · exact hok3
    · show (sF (sF uc 0 9 x) 0 10 y).1 6 = _
      rw [sF_n (by omega), sF_n (by omega)]
      rfl
    · show (sF (sF uc 0 9 x) 0 10 y).1 8 = (sF (sF um 0 4 x) 0 5 y).1 30
      rw [sF_n (by omega), sF_n (by omega), sF_n (by omega), sF_n (by omega)]
      exact s2
    · show (sF (sF uc 0 9 x) 0 10 y).1 9 = (sF (sF um 0 4 x) 0 5 y).1 4
      rw [sF_n (show 9 ≠ 100 * 0 + 10 by omega), sF_n (show 4 ≠ 100 * 0 + 5 by omega)]
      exact (sF_y (u := uc) (j := 0) (s := 9)).trans (sF_y (u := um) (j := 0) (s := 4)).symm
    · exact sF_y.trans (sF_y (u := sF um 0 4 x) (j := 0) (s := 5)).symm
    · intro hb
      show (sF (sF uc 0 9 x) 0 10 y).1 13 = (sF (sF um 0 4 x) 0 5 y).1 35
      rw [sF_n (by omega), sF_n (by omega), sF_n (by omega), sF_n (by omega)]
      exact s5 hb
theorem sb_use : SB pB (g_X9_use F x) (g_X10_use F x) := fun uc um h => by
  obtain ⟨K, W, r1, r2, r3, r4, ⟨s1, s2, s3, s4, s5⟩, r6, r7, r8, r9⟩ := id h
  have hK := r1.1.1.2.1
  have fin : (x = -1 ∨ ∃ r, r < K ∧ x = nI r) → RelC pB (sF uc 0 8 x) (sF um 0 30 x) := fun hx => by
    refine Rel_small (K' := K) h (fun K2 W2 hm => ?_) (okX_n r2 (by decide)) (fun _ _ => rfl) (fun k hk => sF_n (by omega)) (fun _ _ _ => rfl) (fun k k1 k2 k3 => sF_n (by omega)) rfl (WR_c r4 (sF_n (by omega)) (sF_n (by omega)) rfl) (sF_n (by omega)) (sF_y.trans sF_y.symm) ((sF_n (by omega)).trans (s3.trans (sF_n (by omega)).symm)) ((sF_n (by omega)).trans (s4.trans (sF_n (by omega)).symm)) (fun hb => (sF_n (by omega)).trans ((s5 hb).trans (sF_n (by omega)).symm)) r7
    have eK : K2 = K := nI_inj (by have := hm.1.1.2.1; omega) (by omega) (hm.1.1.1.symm.trans r1.1.1.1)
    rcases m_use (F := F) (x := x) hm with ⟨-, -, w⟩ | ⟨w, -⟩
    · exact w
    · rw [eK] at w
      exact absurd hx w
  have hc : g_X9_use F x uc = (if x = -1 ∨ ∃ r, r < K ∧ x = nI r then some (1, sF uc 0 8 x) else some (0, uc)) := by
    unfold g_X9_use g_X9_isKept
    by_cases q : x = -1
    · rw [if_pos q, lt1_i, if_pos (Or.inl q)]
    · rw [if_neg q, s1]
      by_cases q1 : x < 0
      · rw [if_pos q1, ob_i, if_pos rfl, if_neg (fun z => by
          rcases z with z | ⟨r, hr, e⟩
          · exact q z
          · rw [e] at q1; exact nI_pos (by omega) q1)]
      · obtain ⟨k, hk, rfl⟩ := nI_of q1
        rw [if_neg q1]
        by_cases q2 : k < K
        · rw [if_neg (nI_ge q2 (by omega)), if_neg (show ¬ (4 : Int32) ≤ nI k from nI_ge (a := k) (b := 4) (by omega) (by decide)), ob_i, if_neg (by decide), lt1_i, if_pos (Or.inr ⟨k, q2, rfl⟩)]
        · rw [if_pos (nI_le (by omega) hk), ob_i, if_pos rfl, if_neg (fun z => by
            rcases z with z | ⟨r, hr, e⟩
            · exact q z
            · have := nI_inj hk (by omega) e
              omega)]
  rcases m_use (F := F) (x := x) r1 with ⟨w1, w2, -⟩ | ⟨w1, w2⟩
  · exact ⟨(1, sF uc 0 8 x), _, by rw [hc, if_pos w1], w2, rfl, fin w1⟩
  · exact ⟨(0, uc), _, by rw [hc, if_neg w1], w2, rfl, h⟩
theorem sb_watch (hy : y = 0 ∨ y = 1) : SB pB (g_X9_watch F x y) (g_X10_watch F x y) := fun uc um h => by
  obtain ⟨K, W, r1, r2, r3, r4, ⟨s1, s2, s3, s4, s5⟩, r6, r7, r8, r9⟩ := id h
  have h01 := r1.1.2.2.2.2.2.2.2
  rcases m_watch (F := F) (x := x) (y := y) r1 hy with ⟨n1, q1⟩ | ⟨p, hp, rfl, ⟨q0, q1⟩ | ⟨q0, q1, hok⟩⟩
  · refine ⟨(0, uc), _, ?_, q1, rfl, h⟩
    unfold g_X9_watch
    rw [cl_place, if_pos n1]
  · refine ⟨(0, uc), _, ?_, q1, rfl, h⟩
    unfold g_X9_watch
    rw [if_neg (by rw [cl_place]; exact in_nI (a := 0) (b := 39) (by omega) (by omega) (by decide)), c_isWatched r4 h01 hp, ob_i, if_pos q0]
  · have hokK : ∀ K W, okM um K W → okM (rg_R um 30 p y) K W := fun K2 W2 hm => by
      rcases m_watch (F := F) (x := nI p) (y := y) hm hy with ⟨n1, -⟩ | ⟨p2, hp2, ep, ⟨q3, -⟩ | ⟨-, -, w⟩⟩
      · exact absurd n1 (in_nI (a := 0) (b := 39) (by omega) (by omega) (by decide))
      · have := nI_inj (by omega) (by omega) ep
        subst this
        exact absurd q3 q0
      · have := nI_inj (by omega) (by omega) ep
        subst this
        exact w
    have hcls : g_X9_watch F (nI p) y uc = some (1, if 8 ≤ p then sF uc 0 12 (rF uc 0 12 ^^^ dx_shl 1 (nI (p - 8))) else sF uc 0 11 (rF uc 0 11 ^^^ dx_shl 1 (nI p))) := by
      unfold g_X9_watch
      rw [if_neg (by rw [cl_place]; exact in_nI (a := 0) (b := 39) (by omega) (by omega) (by decide)), c_isWatched r4 h01 hp, ob_i, if_neg q0]
      by_cases z : 8 ≤ p
      · rw [if_pos (show (8 : Int32) ≤ nI p from nI_le (a := 8) (b := p) z (by omega)), if_pos z, lt1_i, show nI p - 8 = nI (p - 8) from nI_sub (a := p) (b := 8) z]
      · rw [if_neg (show ¬ (8 : Int32) ≤ nI p from nI_ge (a := p) (b := 8) (by omega) (by decide)), if_neg z, lt1_i]
    refine ⟨_, _, hcls, q1, rfl, ?_⟩
    dsimp only
    by_cases z : 8 ≤ p
    · rw [if_pos z]
      refine Rel_small (K' := K) h hokK (okX_n r2 (by decide)) (fun _ _ => rfl) (fun k hk => sF_n (by omega)) (fun j j1 j2 => R_n (by omega)) (fun _ _ _ _ => rfl) rfl ⟨?_, ?_⟩ (sF_n (by omega)) ((sF_n (by omega)).trans s2) ((sF_n (by omega)).trans s3) ((sF_n (by omega)).trans s4) (fun hb => (sF_n (by omega)).trans (s5 hb)) (fun z' k hz hk => by rw [R_n (by omega)]; exact r7 z' k hz hk)
      · rw [wtB_o 8 (fun k hk => by omega)]
        exact (sF_n (by omega)).trans r4.1
      · have := wtB_x (u := um) (a := 8) (k := p - 8) (n := 32) (y := y) (by omega) (by omega) hy (by rw [show 8 + (p - 8) = p by omega]; exact h01 p hp) (by rw [show 8 + (p - 8) = p by omega]; exact q0)
        rw [show 8 + (p - 8) = p by omega] at this
        rw [this, sF_y, r4.2]
    · rw [if_neg z]
      refine Rel_small (K' := K) h hokK (okX_n r2 (by decide)) (fun _ _ => rfl) (fun k hk => sF_n (by omega)) (fun j j1 j2 => R_n (by omega)) (fun _ _ _ _ => rfl) rfl ⟨?_, ?_⟩ (sF_n (by omega)) ((sF_n (by omega)).trans s2) ((sF_n (by omega)).trans s3) ((sF_n (by omega)).trans s4) (fun hb => (sF_n (by omega)).trans (s5 hb)) (fun z' k hz hk => by rw [R_n (by omega)]; exact r7 z' k hz hk)
      · have := wtB_x (u := um) (a := 0) (k := p) (n := 8) (y := y) (by omega) (by omega) hy (by rw [Nat.zero_add]; exact h01 p hp) (by rw [Nat.zero_add]; exact q0)
        rw [Nat.zero_add] at this
        rw [this, sF_y, r4.1]
      · rw [wtB_o 32 (fun k hk => by omega)]
        exact (sF_n (by omega)).trans r4.2
theorem sb_seed : SB pB (g_X9_seed F x) (g_X10_seed F x) := fun uc um h => by
  obtain ⟨K, W, r1, r2, ⟨A, o1, o2, o3⟩, r4, ⟨s1, s2, s3, s4, s5⟩, r6, r7, r8, r9⟩ := id h
  refine ⟨_, _, rfl, (m_seed r1).1, o3, ?_⟩
  have hg : ∀ r, agR um (sF um 0 34 x) r := fun r => agR_A (fun _ _ _ => rfl)
  refine ⟨K, W, (m_seed (F := F) r1).2, okX_n r2 (by decide), ⟨A, ⟨(sF_n (by omega)).trans o1.1, (sF_n (by omega)).trans o1.2.1, o1.2.2⟩, o2, sF_y.trans sF_y.symm⟩, WR_c r4 (sF_n (by omega)) (sF_n (by omega)) rfl, ⟨(sF_n (by omega)).trans s1, (sF_n (by omega)).trans (s2.trans (sF_n (by omega)).symm), (sF_n (by omega)).trans (s3.trans (sF_n (by omega)).symm), (sF_n (by omega)).trans (s4.trans (sF_n (by omega)).symm), fun hb => (sF_n (by omega)).trans ((s5 hb).trans (sF_n (by omega)).symm)⟩, r6, r7, fun h1 => RR_f (RR_g (r8 h1) (Cr100 r1.1 (Or.inr ⟨rfl, h1⟩)) (hg 4)) (fun _ _ _ => rfl) (fun k k1 _ => sF_n (by omega)), Rel_kept r1 r9 (fun _ _ => rfl) (fun k hk => sF_n (by omega)) (fun r _ => hg r)⟩
theorem now_iff (hX : okX uc) (h : rG uc 0 7 = some 116 ↔ um.2.1 5 4 = 1) (h01 : um.2.1 5 4 = 0 ∨ um.2.1 5 4 = 1) : (rG uc 0 7 = none ∧ um.2.1 5 4 = 0) ∨ (rG uc 0 7 = some 116 ∧ um.2.1 5 4 = 1) := by
  rcases hX.2.1 with e | e
  · refine Or.inl ⟨e, h01.resolve_right (fun z => ?_)⟩
    have := h.mpr z
    rw [show rG uc 0 7 = none from e] at this
    cases this
  · exact Or.inr ⟨e, h.mp e⟩
theorem sb_give : SB pB (g_X9_give F x) (g_X10_give F x) := fun uc um h => by
  obtain ⟨K, W, r1, r2, r3, r4, ⟨s1, s2, s3, s4, s5⟩, r6, r7, r8, r9⟩ := id h
  obtain ⟨A, o1, o2, o3⟩ := id r3
  have hw2 : rF uc 6 2 = nI W := o1.2.1
  have hW9 := o1.2.2.2
  rcases now_iff r2 r6 r1.1.2.1.1 with ⟨e7, e5⟩ | ⟨e7, e5⟩
  · rcases m_give (F := F) (v := x) r1 with ⟨-, q⟩ | ⟨w, -⟩
    · refine ⟨(-1, uc), _, ?_, q, rfl, h⟩
      unfold g_X9_give
      rw [e7, om_0]
    · rw [e5] at w
      exact absurd w (by decide)
  · rcases m_give (F := F) (v := x) r1 with ⟨w, q⟩ | ⟨-, w, q, hok⟩
    · refine ⟨(-1, uc), _, ?_, q, rfl, h⟩
      unfold g_X9_give
      rw [e7, om_i, ck_t (Or.inl rfl), hw2, if_neg (show ¬ nI W < 100 from nI_nlt (a := W) (b := 100) (by have : ¬ W < 100 := fun z => w ⟨e5, z⟩; omega) (by omega))]
    · obtain ⟨w1, e1, e2, e3, e4, e5'⟩ := c_addLast (F := F) (x := x) o1 (by omega)
      refine ⟨(nI (W + 1), w1), _, ?_, q, rfl, ?_⟩
      · unfold g_X9_give
        rw [e7, om_i, ck_t (Or.inl rfl), hw2, if_pos (show nI W < 100 from nI_lt (a := W) (b := 100) w (by decide)), e1, ob_i, e2.2.1]
      · have hg : ∀ r, agR um (sF (rg_R um 29 W x) 0 33 (nI (W + 1))) r := fun r => agR_A (fun j j1 j2 => R_n (by omega))
        have wf : ∀ k, k ≠ 602 → w1.1 k = uc.1 k := fun k hk => by rw [e3]; exact sF_n hk
        have wa : ∀ j, j ≠ 7 → w1.2.1 j = uc.2.1 j := fun j hj => by rw [e3, sF_A]; exact R_n hj
        refine ⟨K, W + 1, hok, tt_get (y := (nI (W + 1), w1)) (P := fun z => okX z.2) (tt_w (wk_give (F := F) (x := x) (wx_r r2.1) r2.2) (fun _ hz => okX_w r2 hz)) ?_, ⟨A, e2, fun i hi => ?_, ?_⟩, WR_c r4 (wf _ (by omega)) (wf _ (by omega)) (R_n (by omega)), ⟨(wf _ (by omega)).trans s1, (wf _ (by omega)).trans (s2.trans (sF_n (by omega)).symm), (wf _ (by omega)).trans (s3.trans (sF_n (by omega)).symm), (wf _ (by omega)).trans (s4.trans (sF_n (by omega)).symm), fun hb => (wf _ (by omega)).trans ((s5 hb).trans (sF_n (by omega)).symm)⟩, ?_, fun z k hz hk => ?_, fun h1 => RR_f (RR_g (r8 e5) (Cr100 r1.1 (Or.inr ⟨rfl, e5⟩)) (hg 4)) (fun j j1 _ => wa j (by omega)) (fun k k1 _ => wf k (by omega)), Rel_kept r1 r9 (fun j hj => wa j (by omega)) (fun k hk => wf k (by omega)) (fun r _ => hg r)⟩
        · unfold g_X9_give
          rw [e7, om_i, ck_t (Or.inl rfl), hw2, if_pos (show nI W < 100 from nI_lt (a := W) (b := 100) w (by decide)), e1, ob_i, e2.2.1]
        · rw [sF_A, R_s]
          rcases Nat.lt_or_ge i W with y | y
          · rw [pk_un (by omega), e4 i y, o2 i y]
          · rw [show i = W by omega, pk_us, e5']
        · exact (wf _ (by omega)).trans (o3.trans (sF_n (by omega)).symm)
        · rw [show rG w1 0 7 = rG uc 0 7 by rw [e3]; rfl, sF_A, R_n (by omega)]
          exact r6
        · rw [wa _ (by omega), sF_A, R_n (by omega)]
          exact r7 z k hz hk
end YC
