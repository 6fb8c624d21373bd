section W_76
-- 97zzk.rel
/-! the class and the reference: what holds of both, and the small calls -/
def RelC (pB : Prop) (uc um : rg_U) : Prop := ∃ K W, okM um K W ∧ okX uc ∧ OutR uc um W ∧ WR uc um ∧ (rF uc 0 6 = nI K ∧ rF uc 0 8 = um.1 30 ∧ rF uc 0 9 = um.1 4 ∧ rF uc 0 10 = um.1 5 ∧ (pB → rF uc 0 13 = um.1 35)) ∧ (rG uc 0 7 = some 116 ↔ um.2.1 5 4 = 1) ∧ (∀ z k, z < 4 → k < 64 → uc.2.1 (2 + z) k = um.2.1 (1 + z) k) ∧ (um.2.1 5 4 = 1 → RR pB uc um 116 4) ∧ ∀ r, r < K → RR pB uc um (151 + 34 * r) r ∧ rF uc (151 + 34 * r) 14 = um.2.1 22 r
/-- both return, answer the same, and what holds of both holds behind it -/
def SB (pB : Prop) (gc gm : rg_U → Option (Int32 × rg_U)) : Prop := ∀ uc um, RelC pB uc um → ∃ zc zm, gc uc = some zc ∧ gm um = some zm ∧ zc.1 = zm.1 ∧ RelC pB zc.2 zm.2
section YC
variable {pB : Prop} {F K W : Nat} {uc um uc' um' : rg_U} {x y z v a b c d e : Int32}
theorem tt_get {α : Type} {x : Option α} {y : α} {P : α → Prop} (h : Tt x P) (e : x = some y) : P y := by
  obtain ⟨r, e2, hr⟩ := h
  rw [e] at e2
  cases e2
  exact hr
theorem Cr100 (h : coreM um K W) {r : Nat} (hr : act um K r) : Cr um r ≤ 100 := (h.2.2.2.2.1 r hr).2.2.2.2.2.2.2.2.1
/-- the kept runs stay -/
theorem Rel_kept (hm : okM um K W) (h : ∀ r, r < K → RR pB uc um (151 + 34 * r) r ∧ rF uc (151 + 34 * r) 14 = um.2.1 22 r) (ha : ∀ j, 150 ≤ j → uc'.2.1 j = uc.2.1 j) (hf : ∀ k, 15000 ≤ k → uc'.1 k = uc.1 k) (hg : ∀ r, r < 4 → agR um um' r) : ∀ r, r < K → RR pB uc' um' (151 + 34 * r) r ∧ rF uc' (151 + 34 * r) 14 = um'.2.1 22 r := fun r hr => by
  have hK := hm.1.1.2.1
  obtain ⟨h1, h2⟩ := h r hr
  refine ⟨RR_f (RR_g h1 (Cr100 hm.1 (Or.inl hr)) (hg r (by omega))) (fun j j1 _ => ha j (by omega)) (fun k k1 _ => hf k (by omega)), ?_⟩
  rw [(hg r (by omega)).2.2.1 22 (Or.inr (Or.inr (by decide)))]
  exact (hf _ (by omega)).trans h2
theorem OutR_c (h : OutR uc um W) (h1 : uc'.1 601 = uc.1 601) (h2 : uc'.1 602 = uc.1 602) (h3 : uc'.1 603 = uc.1 603) (h7 : uc'.2.1 7 = uc.2.1 7) (h29 : um'.2.1 29 = um.2.1 29) (h34 : um'.1 34 = um.1 34) : OutR uc' um' W := by
  obtain ⟨A, o1, o2, o3⟩ := h
  refine ⟨A, ⟨h1.trans o1.1, h2.trans o1.2.1, o1.2.2⟩, fun i hi => ?_, ?_⟩
  · unfold wt9
    rw [h7, h29]
    exact o2 i hi
  · rw [h34]
    exact h3.trans o3
theorem WR_c (h : WR uc um) (h1 : uc'.1 11 = uc.1 11) (h2 : uc'.1 12 = uc.1 12) (h30 : um'.2.1 30 = um.2.1 30) : WR uc' um' := ⟨h1.trans (h.1.trans (wtB_c h30 8).symm), h2.trans (h.2.trans (wtB_c h30 32).symm)⟩
/-- small changes on both sides, none of them in a run -/
theorem Rel_small {K' : Nat} (h : RelC pB uc um) (hm : ∀ K W, okM um K W → okM um' K W) (hX : okX uc') (ha : ∀ j, 6 ≤ j → uc'.2.1 j = uc.2.1 j) (hf : ∀ k, 100 ≤ k → uc'.1 k = uc.1 k) (hA : ∀ j, 5 ≤ j → j ≤ 29 → um'.2.1 j = um.2.1 j) (hF : ∀ k, 6 ≤ k → k ≤ 34 → k ≠ 30 → um'.1 k = um.1 k) (hG : uc'.2.2.1 7 = uc.2.2.1 7) (hW : WR uc' um') (h6 : rF uc' 0 6 = rF uc 0 6) (h8 : rF uc' 0 8 = um'.1 30) (h9 : rF uc' 0 9 = um'.1 4) (h10 : rF uc' 0 10 = um'.1 5) (h13 : pB → rF uc' 0 13 = um'.1 35) (hp : ∀ z k, z < 4 → k < 64 → uc'.2.1 (2 + z) k = um'.2.1 (1 + z) k) : RelC pB uc' um' := by
  obtain ⟨K, W, r1, r2, r3, r4, ⟨s1, s2, s3, s4, s5⟩, r6, r7, r8, r9⟩ := h
  have e5 := hA 5 (by omega) (by omega)
  have hg : ∀ r, agR um um' r := fun r => agR_A (fun j j1 j2 => hA j (by omega) (by omega))
  refine ⟨K, W, hm K W r1, hX, OutR_c r3 (hf _ (by omega)) (hf _ (by omega)) (hf _ (by omega)) (ha 7 (by omega)) (hA 29 (by omega) (by omega)) (hF 34 (by omega) (by omega) (by omega)), hW, ⟨h6.trans s1, h8, h9, h10, h13⟩, ?_, hp, fun h1 => ?_, Rel_kept r1 r9 (fun j hj => ha j (by omega)) (fun k hk => hf k (by omega)) (fun r _ => hg r)⟩
  · rw [e5, show rG uc' 0 7 = rG uc 0 7 from hG]
    exact r6
  · rw [e5] at h1
    exact RR_f (RR_g (r8 h1) (Cr100 r1.1 (Or.inr ⟨rfl, h1⟩)) (hg 4)) (fun j j1 _ => ha j (by omega)) (fun k k1 _ => hf k (by omega))
theorem wr4_at {u : rg_U} {j k i z : Nat} {x a b c : Int32} (hz : z < 4) : (wr4 u j k x a b c).2.1 (j + z) i = if i = k then (if z = 0 then x else if z = 1 then a else if z = 2 then b else c) else u.2.1 (j + z) i := by
  unfold wr4
  rw [R_at, R_at, R_at, R_at]
  by_cases q : i = k
  · subst q
    rcases (show z = 0 ∨ z = 1 ∨ z = 2 ∨ z = 3 by omega) with rfl | rfl | rfl | rfl <;> simp
  · rw [if_neg (fun y => q y.2), if_neg (fun y => q y.2), if_neg (fun y => q y.2), if_neg (fun y => q y.2), if_neg q]
theorem sb_code : SB pB (g_X9_code F a b c d e) (g_X10_code F a b c d e) := fun uc um h => by
  obtain ⟨K, W, r1, r2, r3, r4, ⟨s1, s2, s3, s4, s5⟩, r6, r7, r8, r9⟩ := id h
  rcases c_code (F := F) (a := a) (b := b) (c := c) (d := d) (e := e) (u := uc) with ⟨n1, q1⟩ | ⟨k, hk, ek, y1, q1⟩ <;> rcases m_code (F := F) (a1 := a) (a2 := b) (a3 := c) (a4 := d) (a5 := e) r1 with ⟨n2, q2⟩ | ⟨k2, hk2, ek2, y2, q2, hok⟩
  · exact ⟨_, _, q1, q2, rfl, h⟩
  · rcases n1 with z | z
    · rw [ek2] at z
      exact absurd z (in_nI (a := 0) (b := 63) (by omega) (by omega) (by decide))
    · exact absurd z y2
  · rcases n2 with z | z
    · rw [ek] at z
      exact absurd z (in_nI (a := 0) (b := 63) (by omega) (by omega) (by decide))
    · exact absurd z y1
  · have ekk : k = k2 := nI_inj (by omega) (by omega) (ek.symm.trans ek2)
    subst ekk
    refine ⟨_, _, q1, q2, rfl, Rel_small (K' := K) h (fun K W hm => ?_) (okX_s r2 rfl rfl) (fun j hj => wr4_n (by omega)) (fun _ _ => rfl) (fun j j1 j2 => wr4_n (by omega)) (fun _ _ _ _ => rfl) rfl (WR_c r4 rfl rfl (wr4_n (by omega))) rfl s2 s3 s4 s5 (fun z i hz hi => ?_)⟩
    · rcases m_code (F := F) (a1 := a) (a2 := b) (a3 := c) (a4 := d) (a5 := e) hm with ⟨n2, q3⟩ | ⟨k3, hk3, ek3, y3, q3, hok3⟩
      · rw [q2] at q3
        have := congrArg (fun o : Option (Int32 × rg_U) => o.map (fun p => p.1)) q3
        exact absurd (show (1 : Int32) = 0 from Option.some.inj this) (by decide)
      · have e3 : k3 = k := nI_inj (by omega) (by omega) (ek3.symm.trans ek2)
        subst e3
        exact hok3
    · rw [wr4_at hz, wr4_at hz, r7 z i hz hi]
theorem sb_spacing : SB pB (g_X9_spacing F x y) (g_X10_spacing F x y) := fun uc um h => by
  obtain ⟨K, W, r1, r2, r3, r4, ⟨s1, s2, s3, s4, s5⟩, r6, r7, r8, r9⟩ := id h
  rcases c_spacing (F := F) (x := x) (y := y) (u := uc) with ⟨n1, q1⟩ | ⟨y1, q1⟩ <;> rcases m_spacing (F := F) (x := x) (y := y) r1 with ⟨n2, q2⟩ | ⟨y2, q2, hok⟩
  · exact ⟨_, _, q1, q2, rfl, h⟩
  · exact absurd n1 y2
  · exact absurd n2 y1
  · refine ⟨_, _, q1, q2, rfl, Rel_small (K' := K) h (fun K W hm => ?_) (okX_n (okX_n r2 (by decide)) (by decide)) (fun _ _ => rfl) (fun k hk => by rw [sF_n (by omega), sF_n (by omega)]) (fun _ _ _ => rfl) (fun k k1 k2 _ => by rw [sF_n (by omega), sF_n (by omega)]) rfl (WR_c r4 (by rw [sF_n (by omega), sF_n (by omega)]) (by rw [sF_n (by omega), sF_n (by omega)]) rfl) ?_ ?_ ?_ ?_ ?_ r7⟩
    · rcases m_spacing (F := F) (x := x) (y := y) hm with ⟨n2, -⟩ | ⟨-, -, hok3⟩
      · exact absurd n2 y2
      · exact hok3
    · show (sF (sF uc 0 9 x) 0 10 y).1 6 = _
      rw [sF_n (by omega), sF_n (by omega)]
      rfl
    · show (sF (sF uc 0 9 x) 0 10 y).1 8 = (sF (sF um 0 4 x) 0 5 y).1 30
      rw [sF_n (by omega), sF_n (by omega), sF_n (by omega), sF_n (by omega)]
      exact s2
    · show (sF (sF uc 0 9 x) 0 10 y).1 9 = (sF (sF um 0 4 x) 0 5 y).1 4
      rw [sF_n (show 9 ≠ 100 * 0 + 10 by omega), sF_n (show 4 ≠ 100 * 0 + 5 by omega)]
      exact (sF_y (u := uc) (j := 0) (s := 9)).trans (sF_y (u := um) (j := 0) (s := 4)).symm
    · exact sF_y.trans (sF_y (u := sF um 0 4 x) (j := 0) (s := 5)).symm
    · intro hb
      show (sF (sF uc 0 9 x) 0 10 y).1 13 = (sF (sF um 0 4 x) 0 5 y).1 35
      rw [sF_n (by omega), sF_n (by omega), sF_n (by omega), sF_n (by omega)]
      exact s5 hb
theorem sb_use : SB pB (g_X9_use F x) (g_X10_use F x) := fun uc um h => by
  obtain ⟨K, W, r1, r2, r3, r4, ⟨s1, s2, s3, s4, s5⟩, r6, r7, r8, r9⟩ := id h
  have hK := r1.1.1.2.1
  have fin : (x = -1 ∨ ∃ r, r < K ∧ x = nI r) → RelC pB (sF uc 0 8 x) (sF um 0 30 x) := fun hx => by
    refine Rel_small (K' := K) h (fun K2 W2 hm => ?_) (okX_n r2 (by decide)) (fun _ _ => rfl) (fun k hk => sF_n (by omega)) (fun _ _ _ => rfl) (fun k k1 k2 k3 => sF_n (by omega)) rfl (WR_c r4 (sF_n (by omega)) (sF_n (by omega)) rfl) (sF_n (by omega)) (sF_y.trans sF_y.symm) ((sF_n (by omega)).trans (s3.trans (sF_n (by omega)).symm)) ((sF_n (by omega)).trans (s4.trans (sF_n (by omega)).symm)) (fun hb => (sF_n (by omega)).trans ((s5 hb).trans (sF_n (by omega)).symm)) r7
    have eK : K2 = K := nI_inj (by have := hm.1.1.2.1; omega) (by omega) (hm.1.1.1.symm.trans r1.1.1.1)
    rcases m_use (F := F) (x := x) hm with ⟨-, -, w⟩ | ⟨w, -⟩
    · exact w
    · rw [eK] at w
      exact absurd hx w
  have hc : g_X9_use F x uc = (if x = -1 ∨ ∃ r, r < K ∧ x = nI r then some (1, sF uc 0 8 x) else some (0, uc)) := by
    unfold g_X9_use g_X9_isKept
    by_cases q : x = -1
    · rw [if_pos q, lt1_i, if_pos (Or.inl q)]
    · rw [if_neg q, s1]
      by_cases q1 : x < 0
      · rw [if_pos q1, ob_i, if_pos rfl, if_neg (fun z => by
          rcases z with z | ⟨r, hr, e⟩
          · exact q z
          · rw [e] at q1; exact nI_pos (by omega) q1)]
      · obtain ⟨k, hk, rfl⟩ := nI_of q1
        rw [if_neg q1]
        by_cases q2 : k < K
        · rw [if_neg (nI_ge q2 (by omega)), if_neg (show ¬ (4 : Int32) ≤ nI k from nI_ge (a := k) (b := 4) (by omega) (by decide)), ob_i, if_neg (by decide), lt1_i, if_pos (Or.inr ⟨k, q2, rfl⟩)]
        · rw [if_pos (nI_le (by omega) hk), ob_i, if_pos rfl, if_neg (fun z => by
            rcases z with z | ⟨r, hr, e⟩
            · exact q z
            · have := nI_inj hk (by omega) e
              omega)]
  rcases m_use (F := F) (x := x) r1 with ⟨w1, w2, -⟩ | ⟨w1, w2⟩
  · exact ⟨(1, sF uc 0 8 x), _, by rw [hc, if_pos w1], w2, rfl, fin w1⟩
  · exact ⟨(0, uc), _, by rw [hc, if_neg w1], w2, rfl, h⟩
theorem sb_watch (hy : y = 0 ∨ y = 1) : SB pB (g_X9_watch F x y) (g_X10_watch F x y) := fun uc um h => by
  obtain ⟨K, W, r1, r2, r3, r4, ⟨s1, s2, s3, s4, s5⟩, r6, r7, r8, r9⟩ := id h
  have h01 := r1.1.2.2.2.2.2.2.2
  rcases m_watch (F := F) (x := x) (y := y) r1 hy with ⟨n1, q1⟩ | ⟨p, hp, rfl, ⟨q0, q1⟩ | ⟨q0, q1, hok⟩⟩
  · refine ⟨(0, uc), _, ?_, q1, rfl, h⟩
    unfold g_X9_watch
    rw [cl_place, if_pos n1]
  · refine ⟨(0, uc), _, ?_, q1, rfl, h⟩
    unfold g_X9_watch
    rw [if_neg (by rw [cl_place]; exact in_nI (a := 0) (b := 39) (by omega) (by omega) (by decide)), c_isWatched r4 h01 hp, ob_i, if_pos q0]
  · have hokK : ∀ K W, okM um K W → okM (rg_R um 30 p y) K W := fun K2 W2 hm => by
      rcases m_watch (F := F) (x := nI p) (y := y) hm hy with ⟨n1, -⟩ | ⟨p2, hp2, ep, ⟨q3, -⟩ | ⟨-, -, w⟩⟩
      · exact absurd n1 (in_nI (a := 0) (b := 39) (by omega) (by omega) (by decide))
      · have := nI_inj (by omega) (by omega) ep
        subst this
        exact absurd q3 q0
      · have := nI_inj (by omega) (by omega) ep
        subst this
        exact w
    have hcls : g_X9_watch F (nI p) y uc = some (1, if 8 ≤ p then sF uc 0 12 (rF uc 0 12 ^^^ dx_shl 1 (nI (p - 8))) else sF uc 0 11 (rF uc 0 11 ^^^ dx_shl 1 (nI p))) := by
      unfold g_X9_watch
      rw [if_neg (by rw [cl_place]; exact in_nI (a := 0) (b := 39) (by omega) (by omega) (by decide)), c_isWatched r4 h01 hp, ob_i, if_neg q0]
      by_cases z : 8 ≤ p
      · rw [if_pos (show (8 : Int32) ≤ nI p from nI_le (a := 8) (b := p) z (by omega)), if_pos z, lt1_i, show nI p - 8 = nI (p - 8) from nI_sub (a := p) (b := 8) z]
      · rw [if_neg (show ¬ (8 : Int32) ≤ nI p from nI_ge (a := p) (b := 8) (by omega) (by decide)), if_neg z, lt1_i]
    refine ⟨_, _, hcls, q1, rfl, ?_⟩
    dsimp only
    by_cases z : 8 ≤ p
    · rw [if_pos z]
      refine Rel_small (K' := K) h hokK (okX_n r2 (by decide)) (fun _ _ => rfl) (fun k hk => sF_n (by omega)) (fun j j1 j2 => R_n (by omega)) (fun _ _ _ _ => rfl) rfl ⟨?_, ?_⟩ (sF_n (by omega)) ((sF_n (by omega)).trans s2) ((sF_n (by omega)).trans s3) ((sF_n (by omega)).trans s4) (fun hb => (sF_n (by omega)).trans (s5 hb)) (fun z' k hz hk => by rw [R_n (by omega)]; exact r7 z' k hz hk)
      · rw [wtB_o 8 (fun k hk => by omega)]
        exact (sF_n (by omega)).trans r4.1
      · have := wtB_x (u := um) (a := 8) (k := p - 8) (n := 32) (y := y) (by omega) (by omega) hy (by rw [show 8 + (p - 8) = p by omega]; exact h01 p hp) (by rw [show 8 + (p - 8) = p by omega]; exact q0)
        rw [show 8 + (p - 8) = p by omega] at this
        rw [this, sF_y, r4.2]
    · rw [if_neg z]
      refine Rel_small (K' := K) h hokK (okX_n r2 (by decide)) (fun _ _ => rfl) (fun k hk => sF_n (by omega)) (fun j j1 j2 => R_n (by omega)) (fun _ _ _ _ => rfl) rfl ⟨?_, ?_⟩ (sF_n (by omega)) ((sF_n (by omega)).trans s2) ((sF_n (by omega)).trans s3) ((sF_n (by omega)).trans s4) (fun hb => (sF_n (by omega)).trans (s5 hb)) (fun z' k hz hk => by rw [R_n (by omega)]; exact r7 z' k hz hk)
      · have := wtB_x (u := um) (a := 0) (k := p) (n := 8) (y := y) (by omega) (by omega) hy (by rw [Nat.zero_add]; exact h01 p hp) (by rw [Nat.zero_add]; exact q0)
        rw [Nat.zero_add] at this
        rw [this, sF_y, r4.1]
      · rw [wtB_o 32 (fun k hk => by omega)]
        exact (sF_n (by omega)).trans r4.2
theorem sb_seed : SB pB (g_X9_seed F x) (g_X10_seed F x) := fun uc um h => by
  obtain ⟨K, W, r1, r2, ⟨A, o1, o2, o3⟩, r4, ⟨s1, s2, s3, s4, s5⟩, r6, r7, r8, r9⟩ := id h
  refine ⟨_, _, rfl, (m_seed r1).1, o3, ?_⟩
  have hg : ∀ r, agR um (sF um 0 34 x) r := fun r => agR_A (fun _ _ _ => rfl)
  refine ⟨K, W, (m_seed (F := F) r1).2, okX_n r2 (by decide), ⟨A, ⟨(sF_n (by omega)).trans o1.1, (sF_n (by omega)).trans o1.2.1, o1.2.2⟩, o2, sF_y.trans sF_y.symm⟩, WR_c r4 (sF_n (by omega)) (sF_n (by omega)) rfl, ⟨(sF_n (by omega)).trans s1, (sF_n (by omega)).trans (s2.trans (sF_n (by omega)).symm), (sF_n (by omega)).trans (s3.trans (sF_n (by omega)).symm), (sF_n (by omega)).trans (s4.trans (sF_n (by omega)).symm), fun hb => (sF_n (by omega)).trans ((s5 hb).trans (sF_n (by omega)).symm)⟩, r6, r7, fun h1 => RR_f (RR_g (r8 h1) (Cr100 r1.1 (Or.inr ⟨rfl, h1⟩)) (hg 4)) (fun _ _ _ => rfl) (fun k k1 _ => sF_n (by omega)), Rel_kept r1 r9 (fun _ _ => rfl) (fun k hk => sF_n (by omega)) (fun r _ => hg r)⟩
theorem now_iff (hX : okX uc) (h : rG uc 0 7 = some 116 ↔ um.2.1 5 4 = 1) (h01 : um.2.1 5 4 = 0 ∨ um.2.1 5 4 = 1) : (rG uc 0 7 = none ∧ um.2.1 5 4 = 0) ∨ (rG uc 0 7 = some 116 ∧ um.2.1 5 4 = 1) := by
  rcases hX.2.1 with e | e
  · refine Or.inl ⟨e, h01.resolve_right (fun z => ?_)⟩
    have := h.mpr z
    rw [show rG uc 0 7 = none from e] at this
    cases this
  · exact Or.inr ⟨e, h.mp e⟩
theorem sb_give : SB pB (g_X9_give F x) (g_X10_give F x) := fun uc um h => by
  obtain ⟨K, W, r1, r2, r3, r4, ⟨s1, s2, s3, s4, s5⟩, r6, r7, r8, r9⟩ := id h
  obtain ⟨A, o1, o2, o3⟩ := id r3
  have hw2 : rF uc 6 2 = nI W := o1.2.1
  have hW9 := o1.2.2.2
  rcases now_iff r2 r6 r1.1.2.1.1 with ⟨e7, e5⟩ | ⟨e7, e5⟩
  · rcases m_give (F := F) (v := x) r1 with ⟨-, q⟩ | ⟨w, -⟩
    · refine ⟨(-1, uc), _, ?_, q, rfl, h⟩
      unfold g_X9_give
      rw [e7, om_0]
    · rw [e5] at w
      exact absurd w (by decide)
  · rcases m_give (F := F) (v := x) r1 with ⟨w, q⟩ | ⟨-, w, q, hok⟩
    · refine ⟨(-1, uc), _, ?_, q, rfl, h⟩
      unfold g_X9_give
      rw [e7, om_i, ck_t (Or.inl rfl), hw2, if_neg (show ¬ nI W < 100 from nI_nlt (a := W) (b := 100) (by have : ¬ W < 100 := fun z => w ⟨e5, z⟩; omega) (by omega))]
    · obtain ⟨w1, e1, e2, e3, e4, e5'⟩ := c_addLast (F := F) (x := x) o1 (by omega)
      refine ⟨(nI (W + 1), w1), _, ?_, q, rfl, ?_⟩
      · unfold g_X9_give
        rw [e7, om_i, ck_t (Or.inl rfl), hw2, if_pos (show nI W < 100 from nI_lt (a := W) (b := 100) w (by decide)), e1, ob_i, e2.2.1]
      · have hg : ∀ r, agR um (sF (rg_R um 29 W x) 0 33 (nI (W + 1))) r := fun r => agR_A (fun j j1 j2 => R_n (by omega))
        have wf : ∀ k, k ≠ 602 → w1.1 k = uc.1 k := fun k hk => by rw [e3]; exact sF_n hk
        have wa : ∀ j, j ≠ 7 → w1.2.1 j = uc.2.1 j := fun j hj => by rw [e3, sF_A]; exact R_n hj
        refine ⟨K, W + 1, hok, tt_get (y := (nI (W + 1), w1)) (P := fun z => okX z.2) (tt_w (wk_give (F := F) (x := x) (wx_r r2.1) r2.2) (fun _ hz => okX_w r2 hz)) ?_, ⟨A, e2, fun i hi => ?_, ?_⟩, WR_c r4 (wf _ (by omega)) (wf _ (by omega)) (R_n (by omega)), ⟨(wf _ (by omega)).trans s1, (wf _ (by omega)).trans (s2.trans (sF_n (by omega)).symm), (wf _ (by omega)).trans (s3.trans (sF_n (by omega)).symm), (wf _ (by omega)).trans (s4.trans (sF_n (by omega)).symm), fun hb => (wf _ (by omega)).trans ((s5 hb).trans (sF_n (by omega)).symm)⟩, ?_, fun z k hz hk => ?_, fun h1 => RR_f (RR_g (r8 e5) (Cr100 r1.1 (Or.inr ⟨rfl, e5⟩)) (hg 4)) (fun j j1 _ => wa j (by omega)) (fun k k1 _ => wf k (by omega)), Rel_kept r1 r9 (fun j hj => wa j (by omega)) (fun k hk => wf k (by omega)) (fun r _ => hg r)⟩
        · unfold g_X9_give
          rw [e7, om_i, ck_t (Or.inl rfl), hw2, if_pos (show nI W < 100 from nI_lt (a := W) (b := 100) w (by decide)), e1, ob_i, e2.2.1]
        · rw [sF_A, R_s]
          rcases Nat.lt_or_ge i W with y | y
          · rw [pk_un (by omega), e4 i y, o2 i y]
          · rw [show i = W by omega, pk_us, e5']
        · exact (wf _ (by omega)).trans (o3.trans (sF_n (by omega)).symm)
        · rw [show rG w1 0 7 = rG uc 0 7 by rw [e3]; rfl, sF_A, R_n (by omega)]
          exact r6
        · rw [wa _ (by omega), sF_A, R_n (by omega)]
          exact r7 z k hz hk
end YC
end W_76
section W_77
-- 97zzl.calls
/-! the class and the reference: poke, back, keep, begin -/
section YD
variable {pB : Prop} {F K W : Nat} {uc um uc' um' : rg_U} {x y z v : Int32}
theorem okX_k {g : rg_U → Option (Int32 × rg_U)} {zc : Int32 × rg_U} (h : okX uc) (hw : Tt (g uc) (fun z => wkX uc z.2)) (e : g uc = some zc) : okX zc.2 := tt_get (P := fun z => okX z.2) (tt_w hw (fun _ hz => okX_w h hz)) e
theorem sb_poke : SB pB (g_X9_poke F x y z) (g_X10_poke F x y z) := fun uc um h => by
  obtain ⟨K, W, r1, r2, r3, r4, ⟨s1, s2, s3, s4, s5⟩, r6, r7, r8, r9⟩ := id h
  rcases now_iff r2 r6 r1.1.2.1.1 with ⟨e7, e5⟩ | ⟨e7, e5⟩
  · rcases m_poke (F := F) (x := x) (s := y) (num := z) r1 with ⟨-, q⟩ | ⟨p, -, -, w, -⟩
    · refine ⟨(-1, uc), _, ?_, q, rfl, h⟩
      unfold g_X9_poke
      rw [e7, om_0]
    · rw [e5] at w
      exact absurd w (by decide)
  · have hR := r8 e5
    have hro := r1.1.2.2.2.2.1 4 (Or.inr ⟨rfl, e5⟩)
    have hn8 := hro.2.2.2.2.2.2.1.1.2.2.1
    have hr : isRn 116 := Or.inl rfl
    have hcls : g_X9_poke F x y z uc = (if nr um 4 = 800 ∨ g_X10_isPlace x = 0 ∨ g_X10_isValue y z = 0 then some (-1, uc) else ob (g_X7_putByPoke F 116 x y z uc) (fun r12 => if r12.1 = 0 then (some (0, r12.2)) else (some (1, r12.2)))) := by
      unfold g_X9_poke
      rw [e7]
      simp only [om_i]
      rw [ck_t hr, ck_t hr, c_logfull hR.2.1.1 hn8, ob_i, ck_t hr, cl_place, cl_value]
      by_cases q : nr um 4 = 800
      · rw [if_pos q, if_neg (by decide), if_pos (Or.inl q)]
      · rw [if_neg q, if_pos rfl]
        by_cases q2 : g_X10_isPlace x = 0
        · rw [if_pos q2, if_pos (Or.inr (Or.inl q2))]
        · rw [if_neg q2]
          by_cases q3 : g_X10_isValue y z = 0
          · rw [if_pos q3, if_pos (Or.inr (Or.inr q3))]
          · rw [if_neg q3, if_neg (fun w => by rcases w with w | w | w; exact q w; exact q2 w; exact q3 w)]
    rcases m_poke (F := F) (x := x) (s := y) (num := z) r1 with ⟨w, q⟩ | ⟨p, hp, rfl, -, w2, w3, q, hok⟩
    · refine ⟨(-1, uc), _, ?_, q, rfl, h⟩
      rw [hcls, if_pos]
      by_cases a1 : nr um 4 = 800
      · exact Or.inl a1
      · by_cases a2 : g_X10_isPlace x = 0
        · exact Or.inr (Or.inl a2)
        · by_cases a3 : g_X10_isValue y z = 0
          · exact Or.inr (Or.inr a3)
          · exact absurd ⟨e5, a2, a3, by omega⟩ w
    · obtain ⟨uc', b1, b2, b3, b4, b5, b6⟩ := RR_poke (F := F) (s := y) (num := z) r1 e5 w3 hp hR (by omega)
      have hans : g_X9_poke F (nI p) y z uc = some ((if um.2.1 28 p = y ∧ um.2.1 28 (40 + p) = z then 0 else 1), uc') := by
        rw [hcls, if_neg (fun a => by
          rcases a with a | a | a
          · omega
          · exact in_nI (a := 0) (b := 39) (by omega) (by omega) (by decide) a
          · exact w2 a), b1, ob_i]
        by_cases a : um.2.1 28 p = y ∧ um.2.1 28 (40 + p) = z
        · rw [if_pos a, if_pos rfl]
        · rw [if_neg a]
          exact if_neg (show ¬ (1 : Int32) = 0 by decide)
      refine ⟨_, _, hans, q, rfl, ?_⟩
      have hA : ∀ j, j ≠ 28 → (pokeS um (nr um 4) p y z).2.1 j = (ntS um (nr um 4) 2 z (nI p) y).2.1 j := fun j hj => pm_up_n hj
      have hB : ∀ j, (j < 10 ∨ 15 < j) → j ≠ 28 → (pokeS um (nr um 4) p y z).2.1 j = um.2.1 j := fun j hj h28 => (hA j h28).trans (ntS_n hj)
      have hf : ∀ k, k ≠ 41 → (pokeS um (nr um 4) p y z).1 k = um.1 k := fun k hk => sF_n (by omega)
      have hg : ∀ r, r < 4 → agR um (pokeS um (nr um 4) p y z) r := fun r hr => agR_t (ntS_fr hr) (agR_A (fun j j1 j2 => hA j (by omega)))
      refine ⟨K, W, hok, okX_k r2 (wk_poke (wx_r r2.1) r2.2) hans, OutR_c r3 b4 b5 b6 (b3.2.1 7 (by omega)) (hB 29 (by omega) (by omega)) (hf 34 (by omega)), WR_c r4 (b3.2.2 _ (by omega)) (b3.2.2 _ (by omega)) (hB 30 (by omega) (by omega)), ⟨(b3.2.2 _ (by omega)).trans s1, (b3.2.2 _ (by omega)).trans (s2.trans (hf _ (by omega)).symm), (b3.2.2 _ (by omega)).trans (s3.trans (hf _ (by omega)).symm), (b3.2.2 _ (by omega)).trans (s4.trans (hf _ (by omega)).symm), fun hb => (b3.2.2 _ (by omega)).trans ((s5 hb).trans (hf _ (by omega)).symm)⟩, ?_, fun z' k hz hk => ?_, fun _ => b2, Rel_kept r1 r9 (fun j hj => b3.2.1 j (by omega)) (fun k hk => b3.2.2 k (by omega)) hg⟩
      · rw [show rG uc' 0 7 = rG uc 0 7 by unfold rG; rw [b3.1], hB 5 (by omega) (by omega)]
        exact r6
      · rw [b3.2.1 _ (by omega), hB _ (by omega) (by omega)]
        exact r7 z' k hz hk
/-- the latest count is 0 -/
theorem Rel_zero (h : RelC pB uc um) : RelC pB (sF uc 0 13 0) (sF um 0 35 0) := by
  obtain ⟨K, W, r1, r2, r3, r4, ⟨s1, s2, s3, s4, s5⟩, r6, r7, r8, r9⟩ := id h
  exact Rel_small (K' := K) h (fun K W hm => okM_34 (by omega) hm) (okX_n r2 (by decide)) (fun _ _ => rfl) (fun k hk => sF_n (by omega)) (fun _ _ _ => rfl) (fun k k1 k2 _ => sF_n (by omega)) rfl (WR_c r4 (sF_n (by omega)) (sF_n (by omega)) rfl) (sF_n (by omega)) ((sF_n (by omega)).trans (s2.trans (sF_n (by omega)).symm)) ((sF_n (by omega)).trans (s3.trans (sF_n (by omega)).symm)) ((sF_n (by omega)).trans (s4.trans (sF_n (by omega)).symm)) (fun _ => sF_y.trans sF_y.symm) r7
theorem sb_back (hF : 10000 < F) : SB pB (g_X9_back F x) (g_X10_back F x) := fun uc um h => by
  obtain ⟨K, W, r1, r2, r3, r4, ⟨s1, s2, s3, s4, s5⟩, r6, r7, r8, r9⟩ := id h
  have h0 := Rel_zero h
  have hr : isRn 116 := Or.inl rfl
  rcases now_iff r2 r6 r1.1.2.1.1 with ⟨e7, e5⟩ | ⟨e7, e5⟩
  · rcases m_back (F := F) (x := x) r1 hF with ⟨-, q, -⟩ | ⟨t, u', W', C', w, -⟩
    · refine ⟨(-1, sF uc 0 13 0), _, ?_, q, rfl, h0⟩
      unfold g_X9_back
      rw [lt1_i, show rG (sF uc 0 13 0) 0 7 = none from e7, om_0]
    · rw [e5] at w
      exact absurd w (by decide)
  · have hR := r8 e5
    have hro := r1.1.2.2.2.2.1 4 (Or.inr ⟨rfl, e5⟩)
    have hT3 := hro.2.2.2.2.2.2.1.1.2.2.2.1
    have hS := hR.2.2.2.2.2.2
    have e9 : rF (sF uc 0 13 0) 116 9 = nI (Tr um 4) := by
      obtain ⟨N, hS⟩ := hS
      exact (sF_n (by omega)).trans hS.1
    have hcls : g_X9_back F x uc = (if x < 0 then some (-1, sF uc 0 13 0) else if x < nI (Tr um 4) then ob (g_X9_replay F 116 x (sF uc 0 13 0)) (fun r14 => om (rG r14 0 7) none (fun o19 => ck (isRn o19) (ob (g_X7_goBack F o19 x r14) (fun r21 => some (rF r21 0 13, r21))))) else some (-1, sF uc 0 13 0)) := by
      unfold g_X9_back
      rw [lt1_i, show rG (sF uc 0 13 0) 0 7 = some 116 from e7]
      simp only [om_i]
      rw [ck_t hr, ck_t hr, ck_t hr, e9]
    rcases m_back (F := F) (x := x) r1 hF with ⟨w, q, -⟩ | ⟨t, um', W', C', -, w2, rfl, q, hok, hbk⟩
    · refine ⟨(-1, sF uc 0 13 0), _, ?_, q, rfl, h0⟩
      rw [hcls]
      by_cases a : x < 0
      · rw [if_pos a]
      · rw [if_neg a]
        obtain ⟨k, hk, rfl⟩ := nI_of a
        rw [if_neg (nI_nlt (by
          have : ¬ k < Tr um 4 := fun b => w ⟨e5, k, b, rfl⟩
          omega) hk)]
    · have hR1 : RR pB (sF uc 0 13 0) um 116 4 := RR_f hR (fun _ _ _ => rfl) (fun k k1 _ => sF_n (by omega))
      have hrep := c_replay (F := F) (t := t) hR1 hro (by omega) (by omega) hF
      have e13 : rF (sF uc 0 13 0) 0 13 = 0 := sF_y
      rw [e13] at hrep
      generalize hw : sF (sF (sF uc 0 13 0) 116 12 (rF (sF uc 0 13 0) 116 12 + nI (costM um 4 t))) 0 13 (0 + nI (costM um 4 t)) = w at hrep
      have hw2 : w.2 = uc.2 := by rw [← hw]; rfl
      have hwf : ∀ k, k ≠ 100 * 116 + 12 → k ≠ 13 → w.1 k = uc.1 k := fun k k1 k2 => by rw [← hw, sF_n (by omega), sF_n k1, sF_n (by omega)]
      have hw13 : rF w 0 13 = nI (costM um 4 t) := by rw [← hw, sF_y, Int32.zero_add]
      have hb := hbk.2.2.1
      have hw12 : pB → rF w 116 12 = um'.2.1 25 4 := fun hpb => by
        rw [hb.1, ← hw]
        show (sF (sF (sF uc 0 13 0) 116 12 _) 0 13 _).1 (100 * 116 + 12) = _
        rw [sF_n (by omega)]
        refine (sF_y (u := sF uc 0 13 0) (j := 116) (s := 12)).trans ?_
        rw [show rF (sF uc 0 13 0) 116 12 = rF uc 116 12 from sF_n (by omega), hR.2.2.2.2.2.1.2.2.1 hpb]
      obtain ⟨uc', g1, g2, g3, g4, g5, g6⟩ := RR_back (F := F) r1 e5 w2 hR r3 (by omega) hbk hw2 hwf hw12 hF
      have hans : g_X9_back F (nI t) uc = some (nI (costM um 4 t), uc') := by
        rw [hcls, if_neg (nI_pos (by omega)), if_pos (nI_lt w2 (by omega)), hrep, ob_i, show rG w 0 7 = some 116 by unfold rG; rw [hw2]; exact e7, om_i, ck_t hr, g1, ob_i, show rF uc' 0 13 = rF w 0 13 from g6 _ (by omega), hw13]
      obtain ⟨-, b6, ⟨-, -, b9, b10, b11⟩, b12, b13, -⟩ := hbk
      have cf : ∀ k, (k < 13 ∨ 15000 ≤ k) → uc'.1 k = uc.1 k := fun k hk => (g6 k (by omega)).trans (hwf k (by omega) (by omega))
      have ca : ∀ j, (j < 7 ∨ 150 ≤ j) → uc'.2.1 j = uc.2.1 j := fun j hj => (g5 j (by omega) (by omega)).trans (by rw [hw2])
      refine ⟨_, _, hans, q, rfl, K, W', hok, okX_k r2 (wk_back (wx_r r2.1) r2.2 hF) hans, g3, WR_c r4 (cf _ (by omega)) (cf _ (by omega)) (b6 30 (by omega)), ⟨(cf _ (by omega)).trans s1, (cf _ (by omega)).trans (s2.trans (b12 _ (by omega)).symm), (cf _ (by omega)).trans (s3.trans (b12 _ (by omega)).symm), (cf _ (by omega)).trans (s4.trans (b12 _ (by omega)).symm), ?_⟩, ?_, fun z k hz hk => ?_, fun _ => g2, Rel_kept r1 r9 (fun j hj => ca j (by omega)) (fun k hk => cf k (by omega)) b13⟩
      · intro _
        rw [b9, ← hw13]
        exact g6 _ (by omega)
      · rw [show rG uc' 0 7 = rG uc 0 7 by unfold rG; rw [g4, hw2], b6 5 (by omega)]
        exact r6
      · rw [ca _ (by omega), b6 _ (by omega)]
        exact r7 z k hz hk
/-- the status, on both sides -/
theorem c_status {o : Nat} (hm : okM um K W) (e5 : um.2.1 5 4 = 1) (hR : RR pB uc um o 4) (hO : OutR uc um W) : g_X7_statusWith F o uc = some (stM um W) := by
  have hro := hm.1.2.2.2.2.1 4 (Or.inr ⟨rfl, e5⟩)
  have hlive := hm.1.2.2.2.2.2.1 e5
  have hw := hro.2.2.2.2.2.2.1
  have hG := hw.1
  have hT3 := hG.2.2.2.1
  obtain ⟨⟨cn, hcn, ecn⟩, -⟩ := (rp_ok hG (Tr um 4) (Nat.le_refl _)).1
  have ecn' : um.2.1 28 120 = nI cn := by rw [hlive]; exact ecn
  obtain ⟨r1, r2, r3, r4, r5, ⟨r6, r7, r8, r9⟩, N, hS⟩ := hR
  obtain ⟨A, o1, -, -⟩ := hO
  have e10 : rF uc o 10 = um.2.1 28 132 := r7.trans (by rw [hlive])
  have e30 : uc.2.1 (o + 30) (Tr um 4) = nI cn := (hS.2.2.1 (Tr um 4) (Nat.le_refl _)).1.trans ecn
  unfold g_X7_statusWith stM
  rw [e10]
  by_cases q : um.2.1 28 132 = 0
  · rw [if_pos q, if_pos q, hS.1, x7_counter hS.1 hT3 (Nat.le_refl _), ob_i, e30, x5_kind r1 hcn, ob_i, ecn', o1.2.1]
    have j55 : g_X7_statusWith_j55 F o uc = some (if nr um 4 = 800 then 3 else 0) := by
      unfold g_X7_statusWith_j55
      rw [c_logfull r2.1 hG.2.2.1, ob_i]
      by_cases z : nr um 4 = 800
      · rw [if_pos z, if_pos z, if_neg (by decide)]
      · rw [if_neg z, if_neg z, if_pos rfl]
    have j43 : g_X7_statusWith_j43 F o (kindOf (Pm um 4) (nI cn)) uc = some (if (kindOf (Pm um 4) (nI cn) = 19 ∨ kindOf (Pm um 4) (nI cn) = 20) ∧ nr um 4 = 800 then 3 else 0) := by
      unfold g_X7_statusWith_j43
      rw [j55]
      by_cases z1 : kindOf (Pm um 4) (nI cn) = 19
      · rw [if_pos z1]
        by_cases z : nr um 4 = 800
        · rw [if_pos z, if_pos ⟨Or.inl z1, z⟩]
        · rw [if_neg z, if_neg (fun w => z w.2)]
      · rw [if_neg z1]
        by_cases z2 : kindOf (Pm um 4) (nI cn) = 20
        · rw [if_pos z2]
          by_cases z : nr um 4 = 800
          · rw [if_pos z, if_pos ⟨Or.inr z2, z⟩]
          · rw [if_neg z, if_neg (fun w => z w.2)]
        · rw [if_neg z2, if_neg (fun w => by rcases w.1 with w | w; exact z1 w; exact z2 w)]
    by_cases z1 : kindOf (Pm um 4) (nI cn) = 19
    · rw [if_pos z1]
      by_cases zw : W = 0
      · rw [if_pos (by rw [zw]; rfl), if_pos ⟨z1, zw⟩]
      · rw [if_neg (nI_ne0 (by omega) (by have := o1.2.2.2; omega)), if_neg (fun w => zw w.2), j43]
    · rw [if_neg z1, if_neg (fun w => z1 w.1), j43]
  · rw [if_neg q, if_neg q]
theorem sb_keep (hF : 10000 < F) : SB pB (g_X9_keep F) (g_X10_keep F) := fun uc um h => by
  obtain ⟨K, W, r1, r2, r3, r4, ⟨s1, s2, s3, s4, s5⟩, r6, r7, r8, r9⟩ := id h
  have hK := r1.1.1.2.1
  have h116 : isRn 116 := Or.inl rfl
  obtain ⟨rm, erm, hrm⟩ := z_room (F := F) (x := rF uc 0 6) r2.2
  rcases m_keep (F := F) r1 hF with ⟨w, q⟩ | ⟨e5, w, um', q, hok, k1, k2, k3, k4, k5⟩
  · refine ⟨(-1, uc), _, ?_, q, rfl, h⟩
    unfold g_X9_keep
    rw [erm, ob_i]
    rcases now_iff r2 r6 r1.1.2.1.1 with ⟨e7, e5⟩ | ⟨e7, e5⟩
    · rw [e7]
      simp only [om_0]
      cases rm with
      | none => rw [om_0]
      | some o =>
        rw [om_i]
        by_cases z : inb (rF uc 0 6) 4
        · obtain ⟨k, hk, -, e⟩ := hrm.1 z
          cases e
          rw [ck_t (rn_room hk)]
        · have := hrm.2 z
          cases this
    · have hK4 : K = 4 := by
        have : ¬ K < 4 := fun z => w ⟨e5, z⟩
        omega
      have er : rm = none := hrm.2 (by
        rw [s1, hK4]
        intro z
        exact absurd z.2 (by decide))
      rw [er, om_0, e7, om_i, ck_t h116]
  · have hR := r8 e5
    have e7 : rG uc 0 7 = some 116 := r6.mpr e5
    have hro := r1.1.2.2.2.2.1 4 (Or.inr ⟨rfl, e5⟩)
    have hw' := hro.2.2.2.2.2.2.1
    have hCk := hro.2.2.2.2.2.2.2.2
    obtain ⟨k, hk, ek, er⟩ := hrm.1 (by rw [s1]; exact inb_nI w (by decide))
    have ekK : k = K := nI_inj (by omega) (by omega) (ek.symm.trans s1)
    subst ekK
    have hst := c_status (F := F) r1 e5 hR r3
    obtain ⟨a1, a2, a3, a4, a5, a6, N, hS⟩ := id hR
    obtain ⟨-, -, nH', f, hH1, hH64, -⟩ := id a4
    obtain ⟨V, t1, t2, t3, t4, t5, t6, t7, t8, t9, t10, t11⟩ := c_take7 (F := F) (o0 := 151 + 34 * k) (o1 := 116) (u := uc) (x := stM um W) (by omega) a2.1 hw'.1.2.2.1 hS.2.2.2.1.1 hS.2.2.2.1.2.1 a3.1 hCk.1 hH1 hH64 hS.1 hS.2.1 hF
    have hans : g_X9_keep F uc = some (nI k, sF V 0 6 (nI (k + 1))) := by
      unfold g_X9_keep
      rw [erm, ob_i, er, om_i, ck_t (rn_room hk), e7]
      simp only [om_i]
      rw [ck_t h116, ck_t h116, ck_t h116, hst, ob_i, t1, ob_i, lt1_i]
      have e6 : rF V 0 6 = nI k := (t4 _ (by omega)).trans ek
      rw [e6, nI_1]
      have : rF (sF V 0 6 (nI (k + 1))) 0 6 - 1 = nI k := by
        rw [sF_y]
        exact nI_pred k
      rw [this]
    refine ⟨_, _, hans, q, rfl, ?_⟩
    have cf : ∀ i, i ≠ 6 → (i < 100 * (151 + 34 * k) ∨ 100 * (151 + 34 * k + 34) ≤ i) → (sF V 0 6 (nI (k + 1))).1 i = uc.1 i := fun i i1 i2 => (sF_n (by omega)).trans (t4 i i2)
    have ca : ∀ j, (j ≤ 151 + 34 * k ∨ 151 + 34 * k + 33 < j) → (sF V 0 6 (nI (k + 1))).2.1 j = uc.2.1 j := fun j hj => t3 j hj
    have hg4 : agR um um' 4 := k1 4 (by omega) (by omega)
    have e5' : um'.2.1 5 4 = 1 := hok.1.2.1.2.1 (by omega)
    refine ⟨k + 1, W, hok, tt_get (P := fun z => okX z.2) (ox_keep r2 hF) hans, OutR_c r3 (cf _ (by omega) (by omega)) (cf _ (by omega) (by omega)) (cf _ (by omega) (by omega)) (ca 7 (by omega)) (k5 29 (by omega)) (k4 34 (by omega)), WR_c r4 (cf _ (by omega) (by omega)) (cf _ (by omega) (by omega)) (k5 30 (by omega)), ⟨sF_y, (cf _ (by omega) (by omega)).trans (s2.trans (k4 _ (by omega)).symm), (cf _ (by omega) (by omega)).trans (s3.trans (k4 _ (by omega)).symm), (cf _ (by omega) (by omega)).trans (s4.trans (k4 _ (by omega)).symm), fun hb => (cf _ (by omega) (by omega)).trans ((s5 hb).trans (k4 _ (by omega)).symm)⟩, ?_, fun z i hz hi => ?_, fun _ => RR_f (RR_g hR hCk.1 hg4) (fun j j1 j2 => ca j (by omega)) (fun i i1 i2 => cf i (by omega) (by omega)), fun r hr => ?_⟩
    · rw [show rG (sF V 0 6 (nI (k + 1))) 0 7 = rG uc 0 7 by unfold rG; show V.2.2.1 _ = _; rw [t2], e5']
      exact ⟨fun _ => rfl, fun _ => e7⟩
    · rw [ca _ (by omega), k5 _ (by omega)]
      exact r7 z i hz hi
    · rcases Nat.lt_or_ge r k with y | y
      · obtain ⟨b1, b2⟩ := r9 r y
        have hgr := k1 r (by omega) (by omega)
        refine ⟨RR_f (RR_g b1 (Cr100 r1.1 (Or.inl y)) hgr) (fun j j1 j2 => ca j (by omega)) (fun i i1 i2 => cf i (by omega) (by omega)), ?_⟩
        rw [hgr.2.2.1 22 (Or.inr (Or.inr (by decide)))]
        exact (cf _ (by omega) (by omega)).trans b2
      · have erk : r = k := by omega
        subst erk
        have hRV : RR pB V um' (151 + 34 * r) r := RR_mv (P := N) (H := nH') (T := Tr um 4) hR hro k2 rfl rfl hS.2.2.2.1.1 hS.2.2.2.1.2.1 hH1 hH64 rfl t5 t6 ⟨t7, t8, t9, t10⟩
        refine ⟨RR_f hRV (fun _ _ _ => rfl) (fun i i1 _ => sF_n (by omega)), ?_⟩
        rw [k3]
        exact (sF_n (by omega)).trans t11
theorem begun_fr {r : Nat} (hr : r < 4) (hA : ∀ j i, um'.2.1 j i = m_begunA um j i) : agR um um' r := by
  have key : ∀ j i, j ≠ 28 → j ≠ 5 → (i < 256 ∨ ¬ (6 ≤ j ∧ j ≤ 9)) → (i ≠ 4 ∨ (j ≠ 27 ∧ j ≠ 26 ∧ j ≠ 25 ∧ j ≠ 24 ∧ j ≠ 23 ∧ j ≠ 21 ∧ j ≠ 19 ∧ j ≠ 15)) → (i < 12004 ∨ j ≠ 20) → um'.2.1 j i = um.2.1 j i := fun j i h1 h2 h3 h4 h5 => by
    rw [hA]
    unfold m_begunA
    rw [if_neg (by omega), if_neg (by omega), if_neg (by omega), if_neg (by omega), if_neg (by omega), if_neg (by omega), if_neg (by omega), if_neg (by omega), if_neg (by omega), if_neg (by omega), if_neg (by omega), if_neg (by omega)]
  refine ⟨fun j a b k c => key j _ (by omega) (by omega) (by omega) (by omega) (by omega), fun j a b k c => key j _ (by omega) (by omega) (by omega) (by omega) (by omega), fun j a => ?_, fun j a b k c => key j _ (by omega) (by omega) (by omega) (by omega) (by omega), fun k c => key 20 _ (by omega) (by omega) (by omega) (by omega) (by omega)⟩
  have : (j = 15 ∨ j = 19 ∨ (21 ≤ j ∧ j ≤ 27)) := a
  exact key j _ (by omega) (by omega) (by omega) (by omega) (by omega)
theorem sb_begin (hF : 10000 < F) : SB pB (g_X9_begin F) (g_X10_begin F) := fun uc um h => by
  obtain ⟨K, W, r1, r2, r3, r4, ⟨s1, s2, s3, s4, s5⟩, r6, r7, r8, r9⟩ := id h
  obtain ⟨v, v1, v2, v3⟩ := c_begin (F := F) (u := uc) hF
  obtain ⟨um', q, hok, m1, m2⟩ := m_beginM (F := F) r1 hF
  obtain ⟨U, D, hU, hD, hU1, hU2, hD1, hD2⟩ := r1.1.2.2.2.1
  obtain ⟨A, o1, o2, o3⟩ := id r3
  have e5' : um'.2.1 5 4 = 1 := by
    rw [m2]
    unfold m_begunA
    rw [if_neg (by omega), if_neg (by omega), if_neg (by omega), if_neg (by omega), if_neg (by omega), if_neg (by omega), if_neg (by omega), if_neg (by omega), if_neg (by omega), if_neg (by omega), if_pos ⟨rfl, rfl⟩]
  have hcnt : cntK (uc.2.1 2) 64 = cntK (um.2.1 1) 64 := cntK_c 64 (fun i hi => r7 0 i (by omega) hi)
  have hlow : ∀ j i, (j < 5 ∨ (29 ≤ j ∧ j ≤ 30)) → um'.2.1 j i = um.2.1 j i := fun j i hj => by
    rw [m2]
    unfold m_begunA
    rw [if_neg (by omega), if_neg (by omega), if_neg (by omega), if_neg (by omega), if_neg (by omega), if_neg (by omega), if_neg (by omega), if_neg (by omega), if_neg (by omega), if_neg (by omega), if_neg (by omega), if_neg (by omega)]
  have mf : ∀ k, k ≠ 33 → k ≠ 41 → um'.1 k = um.1 k := fun k k1 k2 => by rw [m1, pk_un k2, pk_un k1]
  have hro' := hok.1.2.2.2.2.1 4 (Or.inr ⟨rfl, e5'⟩)
  have vf : ∀ k, v.1 k = uc.1 k := fun k => by rw [v1.1]; rfl
  have hnew : RR pB (sF (sF (c_begun v) 6 1 0) 6 2 0) um' 116 4 := RR_new (U := U) (D := D) (fun z k hz hk => by rw [v2, if_pos (by omega), show 118 + z - 116 = 2 + z by omega]; exact r7 z k hz hk) ((vf _).trans s3) ((vf _).trans s4) hU hD hro'.2.2.2.2.2.2.1.1.1 hU2 hD2 m2
  have cf : ∀ k, (k < 601 ∨ k = 603 ∨ 15000 ≤ k) → (sF (sF (c_begun v) 6 1 0) 6 2 0).1 k = uc.1 k := fun k hk => by
    rw [← vf k, sF_n (by omega), sF_n (by omega)]
    unfold c_begun
    rw [sF_n (by omega), sF_n (by omega), sF_n (by omega), sF_n (by omega), sF_n (by omega)]
    show (sF (sF (sA (sF (sF (sF (sFill (sF (sF v 122 5 0) 128 11 0) 139 40 (-1)) 140 3 0) 144 3 (rF v 0 9)) 144 4 (rF v 0 10)) 145 0 0) 144 1 1) 144 2 1).1 k = _
    rw [sF_n (by omega), sF_n (by omega)]
    show (sF (sF (sF (sFill (sF (sF v 122 5 0) 128 11 0) 139 40 (-1)) 140 3 0) 144 3 (rF v 0 9)) 144 4 (rF v 0 10)).1 k = _
    rw [sF_n (by omega), sF_n (by omega), sF_n (by omega)]
    show (sF (sF v 122 5 0) 128 11 0).1 k = _
    rw [sF_n (by omega), sF_n (by omega)]
  have ca : ∀ j, (j < 118 ∨ 149 < j) → (sF (sF (c_begun v) 6 1 0) 6 2 0).2.1 j = uc.2.1 j := fun j hj => by
    have e0 : (sF (sF (c_begun v) 6 1 0) 6 2 0).2.1 j = v.2.1 j := by
      show (c_begun v).2.1 j = _
      unfold c_begun sA
      show (rg_R (rg_R (rg_R (rg_R (sF (sF (rg_R _ 145 _ 0) 144 1 1) 144 2 1) 146 _ 0) 147 _ 0) 148 _ 0) 149 _ (-1)).2.1 j = _
      rw [R_n (by omega), R_n (by omega), R_n (by omega), R_n (by omega)]
      show (rg_R _ 145 _ 0).2.1 j = _
      rw [R_n (by omega)]
      show va_up v.2.1 139 _ j = _
      exact pm_up_n (by omega)
    rw [e0]
    funext i
    rw [v2, if_neg (by omega)]
  have hz := tt_get (P := fun z => okX z.2) (ox_begin r2 hF) v3
  refine ⟨_, _, v3, q, by dsimp only; rw [hcnt], K, 0, hok, hz, ⟨0, ⟨?_, sF_y, by omega, by omega⟩, fun i hi => by omega, ?_⟩, WR_c r4 (cf _ (by omega)) (cf _ (by omega)) (funext fun i => hlow 30 i (by omega)), ⟨(cf _ (by omega)).trans s1, (cf _ (by omega)).trans (s2.trans (mf _ (by omega) (by omega)).symm), (cf _ (by omega)).trans (s3.trans (mf _ (by omega) (by omega)).symm), (cf _ (by omega)).trans (s4.trans (mf _ (by omega) (by omega)).symm), fun hb => (cf _ (by omega)).trans ((s5 hb).trans (mf _ (by omega) (by omega)).symm)⟩, ?_, fun z k hz hk => ?_, fun _ => hnew, Rel_kept r1 r9 (fun j hj => ca j (by omega)) (fun k hk => cf k (by omega)) (fun r hr => begun_fr hr m2)⟩
  · show (sF (sF (c_begun v) 6 1 0) 6 2 0).1 (100 * 6 + 1) = _
    rw [sF_n (by omega)]
    exact sF_y
  · exact (cf _ (by omega)).trans (o3.trans (mf _ (by omega) (by omega)).symm)
  · rw [e5']
    refine ⟨fun _ => rfl, fun _ => ?_⟩
    show v.2.2.1 7 = _
    rw [v1.2]
    rfl
  · rw [ca _ (by omega), hlow _ _ (by omega)]
    exact r7 z k hz hk
end YD
end W_77
section W_78
-- 97zzm.run
/-! the class and the reference: run -/
def FM (um um' : rg_U) : Prop := (∀ k, k ≠ 33 → k ≠ 34 → k ≠ 37 → k ≠ 38 → k ≠ 39 → um'.1 k = um.1 k) ∧ (∀ j, (j < 10 ∨ j = 30) → um'.2.1 j = um.2.1 j) ∧ ∀ r, r < 4 → agR um um' r
theorem agR_r {u : rg_U} {r : Nat} : agR u u r := agR_A (fun _ _ _ => rfl)
theorem FM_r {um : rg_U} : FM um um := ⟨fun _ _ _ _ _ _ => rfl, fun _ _ => rfl, fun _ _ => agR_r⟩
theorem FM_t {u v w : rg_U} (h : FM u v) (h2 : FM v w) : FM u w := ⟨fun k a b c d e => (h2.1 k a b c d e).trans (h.1 k a b c d e), fun j hj => (h2.2.1 j hj).trans (h.2.1 j hj), fun r hr => agR_t (h.2.2 r hr) (h2.2.2 r hr)⟩
theorem FX_r {u : rg_U} {o : Nat} : FX u u o := ⟨rfl, fun _ _ => rfl, fun _ _ => rfl⟩
theorem FX_t {u v w : rg_U} {o : Nat} (h : FX u v o) (h2 : FX v w o) : FX u w o := ⟨h2.1.trans h.1, fun j hj => (h2.2.1 j hj).trans (h.2.1 j hj), fun k hk => (h2.2.2 k hk).trans (h.2.2 k hk)⟩
section YE
variable {pB : Prop} {F K W : Nat} {uc um uc' um' : rg_U} {x : Int32}
theorem c_canStep {o : Nat} (hm : okM um K W) (e5 : um.2.1 5 4 = 1) (hR : RR pB uc um o 4) (hO : OutR uc um W) : g_X7_canStep F o uc = some (if Tr um 4 < 3000 ∧ stM um W = 0 then 1 else 0) := by
  have hro := hm.1.2.2.2.2.1 4 (Or.inr ⟨rfl, e5⟩)
  have hT3 := hro.2.2.2.2.2.2.1.1.2.2.2.1
  obtain ⟨N, hS⟩ := hR.2.2.2.2.2.2
  unfold g_X7_canStep
  rw [hS.1, c_status hm e5 hR hO]
  by_cases q : Tr um 4 < 3000
  · rw [if_neg (show ¬ (3000 : Int32) ≤ nI (Tr um 4) from nI_ge (a := Tr um 4) (b := 3000) q (by decide)), ob_i]
    by_cases z : stM um W = 0
    · rw [if_pos z, if_pos ⟨q, z⟩]
    · rw [if_neg z, if_neg (fun w => z w.2)]
  · rw [if_pos (show (3000 : Int32) ≤ nI (Tr um 4) from nI_le (a := 3000) (b := Tr um 4) (by omega) (by omega)), if_neg (fun w => q w.1)]
theorem run2 {n : Nat} {c : Int32} (hn : n ≤ 500) (hF : 10000 < F) : ∀ (f k W : Nat) (um uc : rg_U), f + k = n → okM um K W → um.2.1 5 4 = 1 → RR pB uc um 116 4 → OutR uc um W → WR uc um → rG uc 0 7 = some 116 → ∀ G, f < G → ∃ j um' uc' W', lp (fun (s : Int32 × rg_U) => g_X10_run_l29 F (nI n) c s.1 s.2) G (nI k, um) = some (nI (k + j), um') ∧ lp (fun (s : (Int32 × Int32 × rg_U)) => g_X9_run_l25 F (nI n) s.1 s.2.1 s.2.2) G (nI k, (if wcS um 40 = c then (1 : Int32) else 0), uc) = some (nI (k + j), uc') ∧ okM um' K W' ∧ um'.2.1 5 4 = 1 ∧ RR pB uc' um' 116 4 ∧ OutR uc' um' W' ∧ FX uc uc' 116 ∧ FM um um'
  | f, k, W, um, uc, hf, h, h1, hR, hO, hW, h7, 0, hG => by omega
  | 0, k, W, um, uc, hf, h, h1, hR, hO, hW, h7, G + 1, hG => by
    refine ⟨0, um, uc, W, lp_r ?_, lp_r ?_, h, h1, hR, hO, FX_r, FM_r⟩
    · unfold g_X10_run_l29
      dsimp only
      rw [if_pos (nI_le (by omega) (by omega))]
      rfl
    · unfold g_X9_run_l25
      dsimp only
      by_cases z : wcS um 40 = c
      · rw [if_pos z, if_neg (by decide), if_pos (nI_le (by omega) (by omega))]
        rfl
      · rw [if_neg z, if_pos rfl]
        rfl
  | f + 1, k, W, um, uc, hf, h, h1, hR, hO, hW, h7, G + 1, hG => by
    have hro := h.1.2.2.2.2.1 4 (Or.inr ⟨rfl, h1⟩)
    have hT3 := Tr3 h.1 (Or.inr ⟨rfl, h1⟩)
    have h01 := h.1.2.2.2.2.2.2.2
    have hr : isRn 116 := Or.inl rfl
    have hb : g_X10_run_l29 F (nI n) c (nI k) um = if stM um W = 0 then (if 3000 ≤ nI (Tr um 4) then some (.inr (nI k, um)) else if wcS um 40 = c then ob (g_X10_goesOn F um) (fun r15 => some (.inl (nI (k + 1), r15))) else some (.inr (nI k, um))) else some (.inr (nI k, um)) := by
      unfold g_X10_run_l29
      rw [if_neg (nI_ge (by omega) (by omega)), m_status h.1 h1, ob_i, ck_t (show inb 4 5 by decide), show rA um 21 4 = nI (Tr um 4) from hro.2.1, m_wch hF, ob_i, nI_1]
    have hc : g_X9_run_l25 F (nI n) (nI k) (if wcS um 40 = c then (1 : Int32) else 0) uc = if wcS um 40 = c then (if Tr um 4 < 3000 ∧ stM um W = 0 then ob (g_X7_step F 116 uc) (fun r14 => om (rG r14 0 7) none (fun o19 => ck (isRn o19) (ob (g_X9_isWatched F (rF r14 o19 11) r14) (fun r21 => if r21 = 0 then (g_X9_run_j81 F (nI n) (nI (k + 1)) 1 r14) else (g_X9_run_j81 F (nI n) (nI (k + 1)) 0 r14))))) else some (.inr (nI k, uc))) else some (.inr (nI k, uc)) := by
      unfold g_X9_run_l25
      by_cases z : wcS um 40 = c
      · rw [if_pos z, if_neg (by decide), if_neg (nI_ge (by omega) (by omega)), h7, if_pos z]
        simp only [om_i]
        rw [ck_t hr, c_canStep h h1 hR hO, ob_i, ck_t hr, nI_1]
        by_cases y : Tr um 4 < 3000 ∧ stM um W = 0
        · rw [if_pos y, if_neg (by decide), if_pos y]
        · rw [if_neg y, if_pos rfl, if_neg y]
      · rw [if_neg z, if_pos rfl, if_neg z]
    have stop : g_X10_run_l29 F (nI n) c (nI k) um = some (.inr (nI k, um)) → g_X9_run_l25 F (nI n) (nI k) (if wcS um 40 = c then (1 : Int32) else 0) uc = some (.inr (nI k, uc)) → ∃ j um' uc' W', lp (fun (s : Int32 × rg_U) => g_X10_run_l29 F (nI n) c s.1 s.2) (G + 1) (nI k, um) = some (nI (k + j), um') ∧ lp (fun (s : (Int32 × Int32 × rg_U)) => g_X9_run_l25 F (nI n) s.1 s.2.1 s.2.2) (G + 1) (nI k, (if wcS um 40 = c then (1 : Int32) else 0), uc) = some (nI (k + j), uc') ∧ okM um' K W' ∧ um'.2.1 5 4 = 1 ∧ RR pB uc' um' 116 4 ∧ OutR uc' um' W' ∧ FX uc uc' 116 ∧ FM um um' := fun e1 e2 => ⟨0, um, uc, W, lp_r e1, lp_r e2, h, h1, hR, hO, FX_r, FM_r⟩
    by_cases q1 : stM um W = 0
    · rw [if_pos q1] at hb
      by_cases q2 : Tr um 4 < 3000
      · rw [if_neg (show ¬ (3000 : Int32) ≤ nI (Tr um 4) from nI_ge (a := Tr um 4) (b := 3000) q2 (by decide))] at hb
        by_cases q3 : wcS um 40 = c
        · rw [if_pos q3] at hb
          rw [if_pos q3, if_pos q3, if_pos (c := Tr um 4 < 3000 ∧ stM um W = 0) ⟨q2, q1⟩] at hc
          obtain ⟨u1, v, W1, n', e1, e2, e3, e4, e5, e6⟩ := m_goesOn h h1 q1 q2 hF
          rw [e1, ob_i] at hb
          obtain ⟨c1, d1, d2, d3, d4, d5⟩ := RR_step (F := F) h h1 q1 q2 hR hO (by omega) e4 e5 e6 hF
          have h30 : u1.2.1 30 = um.2.1 30 := e6.2.2.1 30 (by omega)
          have hW1 : WR c1 u1 := WR_c hW (d4.2.2 _ (by omega)) (d4.2.2 _ (by omega)) h30
          have h71 : rG c1 0 7 = some 116 := by
            unfold rG
            rw [d4.1]
            exact h7
          have hFM : FM um u1 := ⟨fun k a b c d e => e6.2.1 k a b c d e, fun j hj => e6.2.2.1 j (by omega), e6.2.2.2.1⟩
          obtain ⟨j, um', uc', W', g1, g2, g3, g4, g5, g6, g7, g8⟩ := run2 (c := c) hn hF f (k + 1) W1 u1 c1 (by omega) e2 e3 d2 d3 hW1 h71 G (by omega)
          have hon : ob (g_X9_isWatched F (rF c1 116 11) c1) (fun r21 => if r21 = 0 then (g_X9_run_j81 F (nI n) (nI (k + 1)) 1 c1) else (g_X9_run_j81 F (nI n) (nI (k + 1)) 0 c1)) = some (.inl (nI (k + 1), (if wcS u1 40 = c then (1 : Int32) else 0), c1)) := by
            unfold g_X9_run_j81
            rcases d5 with ⟨y1, y2⟩ | ⟨p, y1, y2, y3, y4⟩
            · rw [y1, c_notWatched, ob_i, if_pos rfl, wcS_same h30 y2 40 (Nat.le_refl _), if_pos q3]
            · rw [y2, c_isWatched hW1 (by rw [h30]; exact h01) y1, ob_i, h30, wcS_one (p := p) h30 y4 y3 40 (Nat.le_refl _), q3]
              by_cases y5 : um.2.1 30 p = 0
              · rw [if_pos y5, if_neg (c := p < 40 ∧ ¬ um.2.1 30 p = 0) (fun w => w.2 y5), Int32.add_zero, if_pos rfl]
              · have hne : ¬ c + 1 = c := fun w2 => by
                  have := congrArg (fun t : Int32 => t - c) w2
                  rw [Int32.sub_self, Int32.add_comm, Int32.add_sub_cancel] at this
                  exact absurd this (by decide)
                rw [if_neg y5, if_pos (c := p < 40 ∧ ¬ um.2.1 30 p = 0) ⟨y1, y5⟩, if_neg hne]
          rw [d1, ob_i, h71, om_i, ck_t hr, hon] at hc
          refine ⟨j + 1, um', uc', W', ?_, ?_, g3, g4, g5, g6, FX_t d4 g7, FM_t hFM g8⟩
          · rw [lp_l (body := fun (s : Int32 × rg_U) => g_X10_run_l29 F (nI n) c s.1 s.2) (s := (nI k, um)) hb, g1, show k + 1 + j = k + (j + 1) by omega]
          · rw [if_pos q3, lp_l (body := fun (s : (Int32 × Int32 × rg_U)) => g_X9_run_l25 F (nI n) s.1 s.2.1 s.2.2) (s := (nI k, (1 : Int32), uc)) hc, g2, show k + 1 + j = k + (j + 1) by omega]
        · rw [if_neg q3] at hb
          rw [if_neg q3, if_neg q3] at hc
          exact stop hb (by rw [if_neg q3]; exact hc)
      · rw [if_pos (show (3000 : Int32) ≤ nI (Tr um 4) from nI_le (a := 3000) (by omega) (by omega))] at hb
        refine stop hb ?_
        rw [hc, if_neg (fun z : Tr um 4 < 3000 ∧ stM um W = 0 => q2 z.1)]
        by_cases z : wcS um 40 = c
        · rw [if_pos z]
        · rw [if_neg z]
    · rw [if_neg q1] at hb
      refine stop hb ?_
      rw [hc, if_neg (fun z : Tr um 4 < 3000 ∧ stM um W = 0 => q1 z.2)]
      by_cases z : wcS um 40 = c
      · rw [if_pos z]
      · rw [if_neg z]
theorem sb_run (hF : 10000 < F) : SB pB (g_X9_run F x) (g_X10_run F x) := fun uc um h => by
  obtain ⟨K, W, r1, r2, r3, r4, ⟨s1, s2, s3, s4, s5⟩, r6, r7, r8, r9⟩ := id h
  have hr : isRn 116 := Or.inl rfl
  have hin : ∀ n : Nat, 1 ≤ n → n ≤ 500 → ¬ g_X10_isIn (nI n) 1 500 = 0 := fun n a b => in_nI (a := 1) (b := 500) a b (by decide)
  rcases now_iff r2 r6 r1.1.2.1.1 with ⟨e7, e5⟩ | ⟨e7, e5⟩
  · refine ⟨(-1, uc), (-1, um), ?_, ?_, rfl, h⟩
    · unfold g_X9_run
      rw [e7, om_0]
    · unfold g_X10_run
      rw [ck_t (show inb 4 5 by decide), show rA um 5 4 = um.2.1 5 4 from rfl, if_pos e5]
  · have hm0 : g_X10_run F x um = if g_X10_isIn x 1 500 = 0 then some (-1, um) else ob (g_X10_watchedChanges F um) (fun r4 => ob (lp (fun (s : (Int32 × rg_U)) => g_X10_run_l29 F x r4 s.1 s.2) F ((0 : Int32), um)) (fun r20 => some (r20.1, r20.2))) := by
      unfold g_X10_run
      rw [ck_t (show inb 4 5 by decide), show rA um 5 4 = um.2.1 5 4 from rfl, if_neg (by rw [e5]; decide)]
    have hc0 : g_X9_run F x uc = if x < 1 then some (-1, uc) else if x ≤ 500 then ob (lp (fun (s : (Int32 × Int32 × rg_U)) => g_X9_run_l25 F x s.1 s.2.1 s.2.2) F ((0 : Int32), (1 : Int32), uc)) (fun r27 => some (r27.1, r27.2)) else some (-1, uc) := by
      unfold g_X9_run
      rw [e7, om_i, ck_t hr]
    by_cases z : g_X10_isIn x 1 500 = 0
    · rw [if_pos z] at hm0
      refine ⟨(-1, uc), _, ?_, hm0, rfl, h⟩
      rw [hc0]
      rw [in_0] at z
      by_cases a : x < 1
      · rw [if_pos a]
      · rw [if_neg a, if_neg (fun b => z ⟨by rw [Int32.lt_iff_toInt_lt] at a; rw [Int32.le_iff_toInt_le]; omega, b⟩)]
    · obtain ⟨n, rfl, n1, n2⟩ := in_nat z (by decide)
      have e1 : (1 : Int32).toInt = 1 := rfl
      have e2 : (500 : Int32).toInt = 500 := rfl
      obtain ⟨j, um', uc', W', g1, g2, g3, g4, g5, g6, g7, g8⟩ := run2 (F := F) (K := K) (c := wcS um 40) (n := n) (by omega) hF n 0 W um uc (by omega) r1 e5 (r8 e5) r3 r4 e7 F (by omega)
      rw [Nat.zero_add, if_pos rfl] at g2
      rw [Nat.zero_add] at g1
      have hm1 : g_X10_run F (nI n) um = some (nI j, um') := by
        rw [hm0, if_neg z, m_wch hF, ob_i, show lp (fun (s : Int32 × rg_U) => g_X10_run_l29 F (nI n) (wcS um 40) s.1 s.2) F ((0 : Int32), um) = _ from g1, ob_i]
      have hc1 : g_X9_run F (nI n) uc = some (nI j, uc') := by
        rw [hc0, if_neg (show ¬ nI n < 1 from nI_nlt (a := n) (b := 1) (by omega) (by omega)), if_pos (show nI n ≤ 500 from nI_le (a := n) (b := 500) (by omega) (by decide)), show lp (fun (s : (Int32 × Int32 × rg_U)) => g_X9_run_l25 F (nI n) s.1 s.2.1 s.2.2) F ((0 : Int32), (1 : Int32), uc) = _ from g2, ob_i]
      have cf : ∀ k, (k < 601 ∨ 15000 ≤ k) → uc'.1 k = uc.1 k := fun k hk => g7.2.2 k (by omega)
      have ca : ∀ j, (j < 116 ∨ 150 ≤ j) → uc'.2.1 j = uc.2.1 j := fun j hj => g7.2.1 j (by omega)
      have mf : ∀ k, k ≤ 36 → k ≠ 33 → k ≠ 34 → um'.1 k = um.1 k := fun k k1 k2 k3 => g8.1 k k2 k3 (by omega) (by omega) (by omega)
      refine ⟨_, _, hc1, hm1, rfl, K, W', g3, okX_k r2 (wk_run (wx_r r2.1) r2.2 hF) hc1, g6, WR_c r4 (cf _ (by omega)) (cf _ (by omega)) (g8.2.1 30 (by omega)), ⟨(cf _ (by omega)).trans s1, (cf _ (by omega)).trans (s2.trans (mf _ (by omega) (by omega) (by omega)).symm), (cf _ (by omega)).trans (s3.trans (mf _ (by omega) (by omega) (by omega)).symm), (cf _ (by omega)).trans (s4.trans (mf _ (by omega) (by omega) (by omega)).symm), fun hb => (cf _ (by omega)).trans ((s5 hb).trans (mf _ (by omega) (by omega) (by omega)).symm)⟩, ?_, fun z' k hz hk => ?_, fun _ => g5, Rel_kept r1 r9 (fun j hj => ca j (by omega)) (fun k hk => cf k (by omega)) g8.2.2⟩
      · rw [show rG uc' 0 7 = rG uc 0 7 by unfold rG; rw [g7.1], g4]
        exact ⟨fun _ => rfl, fun _ => e7⟩
      · rw [ca _ (by omega), g8.2.1 _ (by omega)]
        exact r7 z' k hz hk
end YE
end W_78
