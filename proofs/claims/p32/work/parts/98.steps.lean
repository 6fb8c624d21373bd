/-! both sides in step: what holds of both, counts of replays too -/
def I_L (_ : Nat) (uc um : rg_U) : Prop := RelC True uc um
theorem I_start : I_L 0 uL_RunsBack uL_RunsBackModel := Rel_start
theorem I_skip {k : Nat} {uc um : rg_U} (h : I_L k uc um) : I_L (k + 1) uc um := h
theorem sc_b {gc gm : rg_U → Option (Int32 × rg_U)} {cmp : Bool} {k : Nat} (h : SB True gc gm) : SC2 gc gm cmp (I_L k) (I_L (k + 1)) := fun uc um hI => by
  obtain ⟨zc, zm, e1, e2, e3, e4⟩ := h uc um hI
  exact ⟨zc, zm, e1, e2, fun _ => e3, e4⟩
theorem sc_v {gc gm : rg_U → Option (Int32 × rg_U)} {cmp : Bool} {k : Nat} (h : SV True gc gm) (hn : ¬ cmp = true) : SC2 gc gm cmp (I_L k) (I_L (k + 1)) := fun uc um hI => by
  obtain ⟨zc, zm, e1, e2, e3⟩ := h uc um hI
  exact ⟨zc, zm, e1, e2, fun q => absurd q hn, e3⟩
theorem sb_all {gc gm : rg_U → Option Int32} (h : ∀ u v, ∃ r, gc u = some r ∧ gm v = some r) : SB True (lf1 gc) (lf1 gm) := fun uc um hI => by
  obtain ⟨r, e1, e2⟩ := h uc um
  exact ⟨(r, uc), (r, um), by unfold lf1; rw [e1, ob_i], by unfold lf1; rw [e2, ob_i], rfl, hI⟩
theorem I_steps {L k : Nat} (hL : L ≤ 3072) (hk : 6 * k + 6 ≤ L) : LawSteps 100000 cmp_L (I_L k) (I_L (k + 1)) := by
  have hF : 10000 < 100000 := by decide
  have hy : ∀ a2 : Int32, (if a2 = 0 then (0 : Int32) else 1) = 0 ∨ (if a2 = 0 then (0 : Int32) else 1) = 1 := fun a2 => it_b (Or.inl rfl) (Or.inr rfl)
  intro a1 a2 a3 a4 a5
  refine ⟨sc_b sb_code, sc_b sb_spacing, sc_b (sb_begin hF), sc_b sb_give, sc_b sb_seed, sc_b sb_poke, sc_b (sb_run hF), sc_b (sb_watch (hy a2)), sc_b (sb_back hF), sc_b (sb_keep hF), sc_b sb_use, sc_b (sr_at hF), sc_b (sr_state hF), sc_b (sr_last hF), sc_b (sr_when hF), sc_b (sr_changed hF), sc_b (sr_watched hF), ?_, ?_, ?_, sc_b (sr_done hF), ?_, ?_, ?_, sc_b (sb_all (would_all hF a1 a2 a3)), sc_b (sb_all (gap_all hF a1 a2 a3)), sc_b (sb_all (sparing_all hF a1 a2 a3)), sc_b (sr_align hF), sc_b (sr_pair hF), sc_b (sr_parts hF), sc_b (sr_look hF)⟩
  · exact sc_v (sv_rests hF) (by decide)
  · exact sc_v (sv_hangs hF) (by decide)
  · exact sc_v (sv_history hF) (by decide)
  · exact sc_v (sv_lf (fun _ _ hG => wk_call hG) (fun u K W h => ⟨_, m_call h.1⟩)) (by decide)
  · exact sc_v (sv_lf (fun _ _ hG => wk_log hG) (fun u K W h => ⟨_, m_log h.1⟩)) (by decide)
  · exact sc_v (sv_lf (fun _ _ hG => wk_held hG) (fun u K W h => ⟨_, m_held h.1 hF⟩)) (by decide)
