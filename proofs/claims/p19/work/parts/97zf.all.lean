/-! the reference: every call returns, in every state that calls lead to -/
def okA (u : rg_U) : Prop := ∃ K W, okM u K W
def SM (g : rg_U → Option (Int32 × rg_U)) : Prop := ∀ u, okA u → ∃ z, g u = some z ∧ okA z.2
theorem okA_fr {u : rg_U} (f : ∀ s, u.1 s = (mu_none 0).1 s) (b : ∀ j i, j ≠ 1 → u.2.1 j i = 0) (c : ∀ i, i < 64 → u.2.1 1 i = -1) : okA u := by
  have na : ∀ r, ¬ act u 0 r := fun r hr => by
    rcases hr with z | z
    · omega
    · rw [b 5 4 (by decide)] at z
      exact absurd z.2 (by decide)
  have n5 : ¬ u.2.1 5 4 = 1 := by rw [b 5 4 (by decide)]; decide
  refine ⟨0, 0, ⟨⟨by rw [f]; rfl, by omega, Or.inl (by rw [f]; rfl)⟩, ⟨Or.inl (b 5 4 (by decide)), fun z => by omega, fun r z => by omega⟩, fun k hk => ?_, ⟨8, 2, by rw [f]; rfl, by rw [f]; rfl, by omega, by omega, by omega, by omega⟩, fun r hr => absurd hr (na r), fun z => absurd z n5, ⟨by rw [f]; rfl, by omega, fun z => absurd z n5⟩, fun p _ => Or.inl (b 30 p (by decide))⟩, simM_none (by omega) (by rw [f]; rfl) (fun i _ => b 28 i (by decide)) (fun i _ => b 31 i (by decide)) (fun i _ => b 37 i (by decide))⟩
  show ¬ g_X10_isFine (u.2.1 1 k) (u.2.1 2 k) (u.2.1 3 k) (u.2.1 4 k) = 0
  rw [c k hk]
  unfold g_X10_isFine
  rw [if_pos rfl]
  decide
theorem fr_b {j i : Nat} : (mu_none 0).2.1 j i = 0 := rfl
theorem okA_start : okA uL_RunsBackModel := by
  have f : ∀ s, uL_RunsBackModel.1 s = (mu_none 0).1 s := fun s => by
    show (mu_none 64).1 _ = _
    rw [mu_none_1 64]
  have a : ∀ j i, uL_RunsBackModel.2.1 j i = if j = 1 ∧ i < 64 then -1 else (mu_none 0).2.1 j i := mu_none_a 64 (by decide)
  refine okA_fr f (fun j i hj => ?_) (fun i hi => ?_)
  · rw [a, if_neg (fun z => hj z.1), fr_b]
  · rw [a, if_pos ⟨rfl, hi⟩]
theorem sm_lf {g : rg_U → Option Int32} (h : ∀ u, okA u → ∃ r, g u = some r) : SM (lf1 g) := fun u hu => by
  obtain ⟨r, e⟩ := h u hu
  exact ⟨(r, u), by unfold lf1; rw [e, ob_i], hu⟩
theorem sm_code {F : Nat} {a1 a2 a3 a4 a5 : Int32} : SM (g_X10_code F a1 a2 a3 a4 a5) := fun u ⟨K, W, h⟩ => by
  rcases m_code (F := F) (a1 := a1) (a2 := a2) (a3 := a3) (a4 := a4) (a5 := a5) h with q | ⟨k, -, -, -, e, q⟩
  · exact ⟨_, q.2, K, W, h⟩
  · exact ⟨_, e, K, W, q⟩
theorem sm_spacing {F : Nat} {x y : Int32} : SM (g_X10_spacing F x y) := fun u ⟨K, W, h⟩ => by
  rcases m_spacing (F := F) (x := x) (y := y) h with q | q
  · exact ⟨_, q.2, K, W, h⟩
  · exact ⟨_, q.2.1, K, W, q.2.2⟩
theorem sm_begin {F : Nat} (hF : 10000 < F) : SM (g_X10_begin F) := fun u ⟨K, W, h⟩ => by
  obtain ⟨u', e, q, -⟩ := m_beginM (F := F) h hF
  exact ⟨_, e, K, 0, q⟩
theorem sm_give {F : Nat} {x : Int32} : SM (g_X10_give F x) := fun u ⟨K, W, h⟩ => by
  rcases m_give (F := F) (v := x) h with q | q
  · exact ⟨_, q.2, K, W, h⟩
  · exact ⟨_, q.2.2.1, K, W + 1, q.2.2.2⟩
theorem sm_seed {F : Nat} {x : Int32} : SM (g_X10_seed F x) := fun u ⟨K, W, h⟩ => ⟨_, (m_seed h).1, K, W, (m_seed (F := F) h).2⟩
theorem sm_poke {F : Nat} {x y z : Int32} : SM (g_X10_poke F x y z) := fun u ⟨K, W, h⟩ => by
  rcases m_poke (F := F) (x := x) (s := y) (num := z) h with q | ⟨p, -, -, -, -, -, e, q⟩
  · exact ⟨_, q.2, K, W, h⟩
  · exact ⟨_, e, K, W, q⟩
theorem sm_run {F : Nat} {x : Int32} (hF : 10000 < F) : SM (g_X10_run F x) := fun u ⟨K, W, h⟩ => by
  rcases m_run (F := F) (x := x) h hF with q | ⟨n, j, u', W', -, -, -, -, e, -, q, -⟩
  · exact ⟨_, q.2, K, W, h⟩
  · exact ⟨_, e, K, W', q⟩
theorem sm_watch {F : Nat} {x y : Int32} (hy : y = 0 ∨ y = 1) : SM (g_X10_watch F x y) := fun u ⟨K, W, h⟩ => by
  rcases m_watch (F := F) (x := x) (y := y) h hy with q | ⟨p, -, -, q | q⟩
  · exact ⟨_, q.2, K, W, h⟩
  · exact ⟨_, q.2, K, W, h⟩
  · exact ⟨_, q.2.1, K, W, q.2.2⟩
theorem sm_back {F : Nat} {x : Int32} (hF : 10000 < F) : SM (g_X10_back F x) := fun u ⟨K, W, h⟩ => by
  rcases m_back (F := F) (x := x) h hF with q | ⟨t, u', W', C', -, -, -, e, q, -⟩
  · exact ⟨_, q.2.1, K, W, q.2.2⟩
  · exact ⟨_, e, K, W', q⟩
theorem sm_keep {F : Nat} (hF : 10000 < F) : SM (g_X10_keep F) := fun u ⟨K, W, h⟩ => by
  rcases m_keep (F := F) h hF with q | ⟨-, -, u', e, q, -⟩
  · exact ⟨_, q.2, K, W, h⟩
  · exact ⟨_, e, K + 1, W, q⟩
theorem sm_use {F : Nat} {x : Int32} : SM (g_X10_use F x) := fun u ⟨K, W, h⟩ => by
  rcases m_use (F := F) (x := x) h with q | q
  · exact ⟨_, q.2.1, K, W, q.2.2⟩
  · exact ⟨_, q.2, K, W, h⟩
theorem sm_at {F : Nat} {x y z : Int32} (hF : 10000 < F) : SM (g_X10_at F x y z) := fun u ⟨K, W, h⟩ => by
  rcases m_at (F := F) (x := x) (y := y) (z := z) h hF with q | ⟨t, p, u', -, -, -, -, -, -, -, e, q, -⟩
  · exact ⟨_, q.2.1, K, W, q.2.2⟩
  · exact ⟨_, e, K, W, q⟩
theorem sm_state {F : Nat} {x y : Int32} (hF : 10000 < F) : SM (g_X10_state F x y) := fun u ⟨K, W, h⟩ => by
  rcases m_state (F := F) (x := x) (y := y) h hF with q | ⟨t, u', -, -, -, -, -, e, q, -⟩
  · exact ⟨_, q.2.1, K, W, q.2.2⟩
  · exact ⟨_, e, K, W, q⟩
theorem sm_last {F : Nat} {x y : Int32} (hF : 10000 < F) : SM (g_X10_last F x y) := fun u ⟨K, W, h⟩ => by
  rcases m_last (F := F) (x := x) (y := y) h hF with q | ⟨t, p, u', -, -, -, -, -, -, e, q, -⟩
  · exact ⟨_, q.2.1, K, W, q.2.2⟩
  · exact ⟨_, e, K, W, q⟩
theorem sm_when {F : Nat} {x y s n : Int32} (hF : 10000 < F) : SM (g_X10_when F x y s n) := fun u ⟨K, W, h⟩ => by
  rcases m_when (F := F) (x := x) (y := y) (s := s) (n := n) h hF with q | ⟨t, p, u', -, -, -, -, -, -, -, e, q, -⟩
  · exact ⟨_, q.2.1, K, W, q.2.2⟩
  · exact ⟨_, e, K, W, q⟩
theorem sm_changed {F : Nat} {x y : Int32} (hF : 10000 < F) : SM (g_X10_changed F x y) := fun u ⟨K, W, h⟩ => by
  rcases m_changed (F := F) (x := x) (y := y) h hF with q | ⟨t, u', -, -, -, -, -, e, q, -⟩
  · exact ⟨_, q.2.1, K, W, q.2.2⟩
  · exact ⟨_, e, K, W, q⟩
theorem sm_watched {F : Nat} {x : Int32} (hF : 10000 < F) : SM (g_X10_watched F x) := fun u ⟨K, W, h⟩ => by
  rcases m_watched (F := F) (x := x) h hF with q | ⟨t, u', -, -, -, -, -, e, q, -⟩
  · exact ⟨_, q.2.1, K, W, q.2.2⟩
  · exact ⟨_, e, K, W, q⟩
theorem sm_rests {F : Nat} {x y z : Int32} (hF : 10000 < F) : SM (g_X10_rests F x y z) := fun u ⟨K, W, h⟩ => by
  rcases m_rests (F := F) (x := x) (y := y) (z := z) h hF with q | ⟨t, p, u', -, -, -, -, -, -, e, q, -⟩
  · exact ⟨_, q.2, K, W, h⟩
  · exact ⟨_, e, K, W, q⟩
theorem sm_hangs {F : Nat} {x y z : Int32} (hF : 10000 < F) : SM (g_X10_hangs F x y z) := fun u ⟨K, W, h⟩ => by
  rcases m_hangs (F := F) (x := x) (y := y) (z := z) h hF with q | ⟨t, p, u', -, -, -, -, -, -, -, e, q, -⟩
  · exact ⟨_, q.1, K, W, h⟩
  · exact ⟨_, e, K, W, q⟩
theorem sm_history {F : Nat} {x y z : Int32} (hF : 10000 < F) : SM (g_X10_history F x y z) := fun u ⟨K, W, h⟩ => by
  rcases m_history (F := F) (x := x) (y := y) (z := z) h hF with q | ⟨p, u', -, -, -, -, -, e, q, -⟩
  · exact ⟨_, q.2, K, W, h⟩
  · exact ⟨_, e, K, W, q⟩
theorem sm_done {F : Nat} {x y : Int32} (hF : 10000 < F) : SM (g_X10_done F x y) := fun u ⟨K, W, h⟩ => by
  rcases m_done (F := F) (x := x) (y := y) h hF with q | ⟨t, u', -, -, -, -, -, e, q, -⟩
  · exact ⟨_, q.2, K, W, h⟩
  · exact ⟨_, e, K, W, q⟩
theorem sm_call {F : Nat} {x y : Int32} : SM (lf1 (g_X10_call F x y)) := sm_lf fun u ⟨_, _, h⟩ => ⟨_, m_call h.1⟩
theorem sm_log {F : Nat} {x y : Int32} : SM (lf1 (g_X10_log F x y)) := sm_lf fun u ⟨_, _, h⟩ => ⟨_, m_log h.1⟩
theorem sm_held {F : Nat} {x y : Int32} (hF : 10000 < F) : SM (lf1 (g_X10_held F x y)) := sm_lf fun u ⟨_, _, h⟩ => ⟨_, m_held h.1 hF⟩
theorem sm_look {F : Nat} {x : Int32} (hF : 10000 < F) : SM (lf1 (g_X10_look F x)) := sm_lf fun u ⟨_, _, h⟩ => ⟨_, m_look h.1 hF⟩
theorem sm_would {F : Nat} {x y z : Int32} (hF : 10000 < F) : SM (lf1 (g_X10_would F x y z)) := sm_lf fun u _ => (would_all hF x y z u u).imp fun _ e => e.2
theorem sm_gap {F : Nat} {x y z : Int32} (hF : 10000 < F) : SM (lf1 (g_X10_gap F x y z)) := sm_lf fun u _ => (gap_all hF x y z u u).imp fun _ e => e.2
theorem sm_sparing {F : Nat} {x y z : Int32} (hF : 10000 < F) : SM (lf1 (g_X10_sparing F x y z)) := sm_lf fun u _ => (sparing_all hF x y z u u).imp fun _ e => e.2
theorem sm_align {F : Nat} {x y : Int32} (hF : 10000 < F) : SM (g_X10_align F x y) := fun u ⟨K, W, h⟩ => by
  rcases m_align (F := F) (x := x) (y := y) h hF with q | ⟨r1, r2, w, -, -, -, -, e, -, q⟩
  · exact ⟨_, q.2, K, W, h⟩
  · exact ⟨_, e, K, W, q⟩
theorem sm_pair {F : Nat} {x y z q : Int32} (hF : 10000 < F) : SM (g_X10_pair F x y z q) := fun u ⟨K, W, h⟩ => by
  rcases m_pair (F := F) (x := x) (y := y) (z := z) (q := q) h hF with ⟨w, e, g, -⟩ | ⟨r1, r2, k, a, b, w, -, -, -, -, -, -, -, -, e, g, -⟩
  · exact ⟨_, e, K, W, g⟩
  · exact ⟨_, e, K, W, g⟩
theorem sm_parts {F : Nat} {x y : Int32} (hF : 10000 < F) : SM (g_X10_parts F x y) := fun u ⟨K, W, h⟩ => by
  rcases m_parts (F := F) (x := x) (y := y) h hF with q | ⟨r1, r2, a, w, -, -, -, -, e, -, -, q⟩
  · exact ⟨_, q.2, K, W, h⟩
  · exact ⟨_, e, K, W, q⟩
