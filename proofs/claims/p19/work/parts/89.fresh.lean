/-! the first call on a fresh object -/
def frC (u : rg_U) : Prop := rG u 0 7 = none ∧ rF u 0 8 = -1 ∧ rF u 0 6 = 0 ∧ rF u 0 11 = 0 ∧ rF u 0 12 = 0 ∧ rF u 0 13 = 0 ∧ rF u 6 2 = 0 ∧ rF u 6 3 = 1 ∧ rQ u 150 0 = some 151 ∧ ∀ i, i < 64 → u.2.1 2 i = -1
def frM (u : rg_U) : Prop := rA u 5 4 = 0 ∧ rF u 0 29 = 0 ∧ rF u 0 30 = -1 ∧ rF u 0 33 = 0 ∧ rF u 0 34 = 1 ∧ rF u 0 35 = 0 ∧ (∀ i, u.2.1 30 i = 0) ∧ ∀ i, i < 64 → u.2.1 1 i = -1
theorem frC_l {u : rg_U} (h : frC u) : frC (sF u 0 13 0) := ⟨h.1, h.2.1, h.2.2.1, h.2.2.2.1, h.2.2.2.2.1, rfl, h.2.2.2.2.2.2⟩
theorem frM_l {u : rg_U} (h : frM u) : frM (sF u 0 35 0) := ⟨h.1, h.2.1, h.2.2.1, h.2.2.2.1, h.2.2.2.2.1, rfl, h.2.2.2.2.2.2⟩
theorem frC_0 : frC uL_RunsBack := ⟨rfl, rfl, rfl, rfl, rfl, rfl, rfl, rfl, rfl, fun i hi => by
  show (if i < 64 then (-1 : Int32) else 0) = -1
  rw [if_pos hi]⟩
theorem mu_none_1 : ∀ k : Nat, (mu_none k).1 = (mu_none 0).1
  | 0 => rfl
  | k + 1 => mu_none_1 k
theorem mu_none_a : ∀ k : Nat, k ≤ 64 → ∀ j i, (mu_none k).2.1 j i = if j = 1 ∧ i < k then -1 else (mu_none 0).2.1 j i
  | 0, _, j, i => by rw [if_neg (by omega)]
  | k + 1, hk, j, i => by
    show (rg_R (mu_none k) 1 (nI k).toNatClampNeg (-1)).2.1 j i = _
    rw [nI_clamp (by omega), R_at, mu_none_a k (by omega) j i]
    by_cases h : j = 1 ∧ i = k
    · rw [if_pos h, if_pos (by omega)]
    · rw [if_neg h]
      by_cases h2 : j = 1 ∧ i < k
      · rw [if_pos h2, if_pos (by omega)]
      · rw [if_neg h2, if_neg (by omega)]
theorem frM_0 : frM uL_RunsBackModel := by
  have f : ∀ s, rF uL_RunsBackModel 0 s = (mu_none 0).1 (100 * 0 + s) := fun s => by
    show (mu_none 64).1 _ = _
    rw [mu_none_1 64]
  have a : ∀ j i, uL_RunsBackModel.2.1 j i = if j = 1 ∧ i < 64 then -1 else (mu_none 0).2.1 j i := mu_none_a 64 (by decide)
  refine ⟨?_, by rw [f]; rfl, by rw [f]; rfl, by rw [f]; rfl, by rw [f]; rfl, by rw [f]; rfl, fun i => ?_, fun i hi => ?_⟩
  · show uL_RunsBackModel.2.1 5 _ = 0
    rw [a, if_neg (by omega)]; rfl
  · rw [a, if_neg (by omega)]; rfl
  · rw [a, if_pos ⟨rfl, hi⟩]
theorem i32_n0 {x : Int32} : g_X10_isIn x 0 (0 - 1) = 0 := by
  rw [in_0]
  rintro ⟨q1, q2⟩
  rw [Int32.le_iff_toInt_le] at q1 q2
  have e1 : (0 : Int32).toInt = 0 := rfl
  have e2 : ((0 : Int32) - 1).toInt = -1 := by decide
  omega
theorem fr_kept {F : Nat} {x : Int32} {u : rg_U} (h : frC u) : g_X9_isKept F x u = some 0 := by
  unfold g_X9_isKept
  rw [h.2.2.1]
  by_cases q : x < 0
  · rw [if_pos q]
  · rw [if_neg q, if_pos (by rw [Int32.le_iff_toInt_le]; rw [Int32.lt_iff_toInt_lt] at q; omega)]
theorem fr_num {F : Nat} {x : Int32} {u : rg_U} (h : frC u) : g_X9_numbered F x u = some none := by
  unfold g_X9_numbered
  rw [h.1, om_0, fr_kept h, ob_i, if_pos rfl]
  by_cases q : x = -1
  · rw [if_pos q]
  · rw [if_neg q]
theorem fr_ask {F : Nat} {u : rg_U} (h : frM u) : g_X10_runAsked F u = some 4 := by
  unfold g_X10_runAsked
  rw [if_pos h.2.2.1]
theorem fr_time {F : Nat} {x : Int32} {u : rg_U} (h : frM u) : g_X10_isTime F x u = some 0 := by
  unfold g_X10_isTime
  rw [fr_ask h, ob_i, ck_t (by decide), if_pos h.1]
theorem fr_there {F : Nat} {x : Int32} {u : rg_U} (h : frM u) : g_X10_isThere F x u = some 0 := by
  unfold g_X10_isThere
  rw [h.1, h.2.1, i32_n0, ck_t (by decide), ck_t (Or.inl rfl)]
  by_cases q : x = -1
  · rw [if_pos q]
  · rw [if_neg q]
/-- both answer the same -/
def Both (gc gm : Option (Int32 × rg_U)) : Prop := ∃ zc zm : Int32 × rg_U, gc = some zc ∧ gm = some zm ∧ zc.1 = zm.1
theorem ex2 {α : Type} {x : Option α} (h : ∃ r, x = some r) : ∃ r, x = some r ∧ x = some r := by
  obtain ⟨r, e⟩ := h
  exact ⟨r, e, e⟩
theorem both_i {gc gm : Option (Int32 × rg_U)} {r : Int32} {u v : rg_U} (h1 : gc = some (r, u)) (h2 : gm = some (r, v)) : Both gc gm := ⟨(r, u), (r, v), h1, h2, rfl⟩
section FR
variable {F : Nat} {uc um : rg_U}
theorem fr_give {a1 : Int32} (hc : frC uc) (hm : frM um) : Both (g_X9_give F a1 uc) (g_X10_give F a1 um) := by
  refine ⟨(-1, uc), (-1, um), ?_, ?_, rfl⟩
  · unfold g_X9_give
    rw [hc.1, om_0]
  · unfold g_X10_give
    rw [ck_t (by decide), if_pos hm.1]
theorem fr_poke {a1 a2 a3 : Int32} (hc : frC uc) (hm : frM um) : Both (g_X9_poke F a1 a2 a3 uc) (g_X10_poke F a1 a2 a3 um) := by
  refine ⟨(-1, uc), (-1, um), ?_, ?_, rfl⟩
  · unfold g_X9_poke
    rw [hc.1, om_0]
  · unfold g_X10_poke
    rw [ck_t (by decide), if_pos hm.1]
theorem fr_run {a1 : Int32} (hc : frC uc) (hm : frM um) : Both (g_X9_run F a1 uc) (g_X10_run F a1 um) := by
  refine ⟨(-1, uc), (-1, um), ?_, ?_, rfl⟩
  · unfold g_X9_run
    rw [hc.1, om_0]
  · unfold g_X10_run
    rw [ck_t (by decide), if_pos hm.1]
theorem fr_back {a1 : Int32} (hc : frC uc) (hm : frM um) : Both (g_X9_back F a1 uc) (g_X10_back F a1 um) := by
  refine ⟨(-1, sF uc 0 13 0), (-1, sF um 0 35 0), ?_, ?_, rfl⟩
  · unfold g_X9_back
    rw [lt1_i, show rG (sF uc 0 13 0) 0 7 = none from hc.1, om_0]
  · unfold g_X10_back
    rw [lt1_i, ck_t (by decide), if_pos (frM_l hm).1]
theorem fr_keep (hc : frC uc) (hm : frM um) : Both (g_X9_keep F uc) (g_X10_keep F um) := by
  refine ⟨(-1, uc), (-1, um), ?_, ?_, rfl⟩
  · unfold g_X9_keep g_X9_roomOfKept
    rw [hc.2.2.1, hc.2.2.2.2.2.2.2.2.1, hc.1]
    rfl
  · unfold g_X10_keep
    rw [ck_t (by decide), if_pos hm.1]
theorem fr_at {a1 a2 a3 : Int32} (hc : frC uc) (hm : frM um) : Both (g_X9_at F a1 a2 a3 uc) (g_X10_at F a1 a2 a3 um) := by
  refine ⟨(-1000001, sF uc 0 13 0), (-1000001, sF um 0 35 0), ?_, ?_, rfl⟩
  · unfold g_X9_at
    rw [lt1_i, show rF (sF uc 0 13 0) 0 8 = -1 from hc.2.1, fr_num (frC_l hc), ob_i, om_0]
  · unfold g_X10_at
    rw [lt1_i, fr_time (frM_l hm), ob_i, if_pos rfl]
theorem fr_state {a1 a2 : Int32} (hc : frC uc) (hm : frM um) : Both (g_X9_state F a1 a2 uc) (g_X10_state F a1 a2 um) := by
  refine ⟨(-1000001, sF uc 0 13 0), (-1000001, sF um 0 35 0), ?_, ?_, rfl⟩
  · unfold g_X9_state
    rw [lt1_i, show rF (sF uc 0 13 0) 0 8 = -1 from hc.2.1, fr_num (frC_l hc), ob_i, om_0]
  · unfold g_X10_state
    rw [lt1_i, fr_time (frM_l hm), ob_i, if_pos rfl]
theorem fr_last {a1 a2 : Int32} (hc : frC uc) (hm : frM um) : Both (g_X9_last F a1 a2 uc) (g_X10_last F a1 a2 um) := by
  refine ⟨(-2, sF uc 0 13 0), (-2, sF um 0 35 0), ?_, ?_, rfl⟩
  · unfold g_X9_last
    rw [lt1_i, show rF (sF uc 0 13 0) 0 8 = -1 from hc.2.1, fr_num (frC_l hc), ob_i, om_0]
  · unfold g_X10_last
    rw [lt1_i, fr_time (frM_l hm), ob_i, if_pos rfl]
theorem fr_when {a1 a2 a3 a4 : Int32} (hc : frC uc) (hm : frM um) : Both (g_X9_when F a1 a2 a3 a4 uc) (g_X10_when F a1 a2 a3 a4 um) := by
  refine ⟨(-2, sF uc 0 13 0), (-2, sF um 0 35 0), ?_, ?_, rfl⟩
  · unfold g_X9_when
    rw [lt1_i, show rF (sF uc 0 13 0) 0 8 = -1 from hc.2.1, fr_num (frC_l hc), ob_i, om_0]
  · unfold g_X10_when
    rw [lt1_i, fr_time (frM_l hm), ob_i, if_pos rfl]
theorem fr_changed {a1 a2 : Int32} (hc : frC uc) (hm : frM um) : Both (g_X9_changed F a1 a2 uc) (g_X10_changed F a1 a2 um) := by
  refine ⟨(-1000001, sF uc 0 13 0), (-1000001, sF um 0 35 0), ?_, ?_, rfl⟩
  · unfold g_X9_changed
    rw [lt1_i, show rF (sF uc 0 13 0) 0 8 = -1 from hc.2.1, fr_num (frC_l hc), ob_i, om_0]
  · unfold g_X10_changed
    rw [lt1_i, fr_ask (frM_l hm), ob_i, fr_time (frM_l hm), ob_i, if_pos rfl]
theorem fr_watched {a1 : Int32} (hc : frC uc) (hm : frM um) : Both (g_X9_watched F a1 uc) (g_X10_watched F a1 um) := by
  refine ⟨(-2, sF uc 0 13 0), (-2, sF um 0 35 0), ?_, ?_, rfl⟩
  · unfold g_X9_watched
    rw [lt1_i, show rF (sF uc 0 13 0) 0 8 = -1 from hc.2.1, fr_num (frC_l hc), ob_i, om_0]
  · unfold g_X10_watched
    rw [lt1_i, fr_time (frM_l hm), ob_i, if_pos rfl]
    by_cases q : a1 < 1
    · rw [if_pos q]
    · rw [if_neg q]
theorem fr_rests {a1 a2 a3 : Int32} (hc : frC uc) (hm : frM um) : Both (g_X9_rests F a1 a2 a3 uc) (g_X10_rests F a1 a2 a3 um) := by
  refine ⟨(-2, uc), (-2, um), ?_, ?_, rfl⟩
  · unfold g_X9_rests
    rw [hc.2.1, fr_num hc, ob_i, om_0]
  · unfold g_X10_rests
    rw [fr_time hm, ob_i, if_pos rfl]
theorem fr_hangs {a1 a2 a3 : Int32} (hc : frC uc) (hm : frM um) : Both (g_X9_hangs F a1 a2 a3 uc) (g_X10_hangs F a1 a2 a3 um) := by
  refine ⟨(-1000001, uc), (-1000001, um), ?_, ?_, rfl⟩
  · unfold g_X9_hangs
    rw [hc.2.1, fr_num hc, ob_i, om_0]
  · unfold g_X10_hangs
    rw [fr_ask hm, ob_i, fr_time hm, ob_i, if_pos rfl]
theorem fr_history {a1 a2 a3 : Int32} (hc : frC uc) (hm : frM um) : Both ((lf1 (g_X9_history F a1 a2 a3)) uc) (g_X10_history F a1 a2 a3 um) := by
  refine ⟨(-1000001, uc), (-1000001, um), ?_, ?_, rfl⟩
  · unfold lf1 g_X9_history
    rw [hc.2.1, fr_num hc, ob_i, om_0, ob_i]
  · unfold g_X10_history
    rw [fr_ask hm, ob_i, ck_t (by decide), if_pos hm.1]
theorem fr_done {a1 a2 : Int32} (hc : frC uc) (hm : frM um) : Both ((lf1 (g_X9_done F a1 a2)) uc) (g_X10_done F a1 a2 um) := by
  refine ⟨(-2, uc), (-2, um), ?_, ?_, rfl⟩
  · unfold lf1 g_X9_done
    rw [hc.2.1, fr_num hc, ob_i, om_0, ob_i]
  · unfold g_X10_done
    rw [fr_time hm, ob_i, if_pos rfl]
theorem fr_call {a1 a2 : Int32} (hc : frC uc) (hm : frM um) : Both ((lf1 (g_X9_call F a1 a2)) uc) ((lf1 (g_X10_call F a1 a2)) um) := by
  refine ⟨(-1, uc), (-1, um), ?_, ?_, rfl⟩
  · unfold lf1 g_X9_call
    rw [hc.2.1, fr_num hc, ob_i, om_0, ob_i]
  · unfold lf1 g_X10_call
    rw [fr_ask hm, ob_i, ck_t (by decide), if_pos hm.1, ob_i]
theorem fr_log {a1 a2 : Int32} (hc : frC uc) (hm : frM um) : Both ((lf1 (g_X9_log F a1 a2)) uc) ((lf1 (g_X10_log F a1 a2)) um) := by
  refine ⟨(-1000001, uc), (-1000001, um), ?_, ?_, rfl⟩
  · unfold lf1 g_X9_log
    rw [hc.2.1, fr_num hc, ob_i, om_0, ob_i]
  · unfold lf1 g_X10_log
    rw [fr_ask hm, ob_i, ck_t (by decide), if_pos hm.1, ob_i]
theorem fr_held {a1 a2 : Int32} (hc : frC uc) (hm : frM um) : Both ((lf1 (g_X9_held F a1 a2)) uc) ((lf1 (g_X10_held F a1 a2)) um) := by
  refine ⟨(-1, uc), (-1, um), ?_, ?_, rfl⟩
  · unfold lf1 g_X9_held
    rw [hc.2.1, fr_num hc, ob_i, om_0, ob_i]
  · unfold lf1 g_X10_held
    rw [fr_ask hm, ob_i, ck_t (by decide), if_pos hm.1, ob_i]
theorem fr_align {a1 a2 : Int32} (hc : frC uc) (hm : frM um) : Both (g_X9_align F a1 a2 uc) (g_X10_align F a1 a2 um) := by
  refine ⟨(-2, uc), (-2, um), ?_, ?_, rfl⟩
  · unfold g_X9_align
    rw [fr_num hc, ob_i, om_0, fr_num hc, ob_i, om_0]
  · unfold g_X10_align
    rw [fr_there hm, ob_i, if_pos rfl]
theorem fr_pair {a1 a2 a3 a4 : Int32} (hc : frC uc) (hm : frM um) : Both (g_X9_pair F a1 a2 a3 a4 uc) (g_X10_pair F a1 a2 a3 a4 um) := by
  refine ⟨(-1000001, sF uc 0 13 0), (-1000001, sF um 0 35 0), ?_, ?_, rfl⟩
  · unfold g_X9_pair
    rw [lt1_i, fr_num (frC_l hc), ob_i, om_0, fr_num (frC_l hc), ob_i, om_0]
  · unfold g_X10_pair
    rw [lt1_i, fr_there (frM_l hm), ob_i, if_pos rfl]
theorem fr_parts {a1 a2 : Int32} (hc : frC uc) (hm : frM um) : Both (g_X9_parts F a1 a2 uc) (g_X10_parts F a1 a2 um) := by
  refine ⟨(-2, uc), (-2, um), ?_, ?_, rfl⟩
  · unfold g_X9_parts
    rw [fr_num hc, ob_i, om_0, fr_num hc, ob_i, om_0]
  · unfold g_X10_parts
    rw [fr_there hm, ob_i, if_pos rfl]
theorem fr_code {a1 a2 a3 a4 a5 : Int32} (hc : frC uc) (hm : frM um) : Both (g_X9_code F a1 a2 a3 a4 a5 uc) (g_X10_code F a1 a2 a3 a4 a5 um) := by
  unfold g_X9_code g_X10_code
  rw [cl_ipl]
  by_cases q : g_X10_isIn a1 0 63 = 0
  · exact ⟨(0, uc), (0, um), by rw [if_pos q], by rw [if_pos q], rfl⟩
  rw [if_neg q, if_neg q]
  obtain ⟨k, rfl, h1, h2⟩ := in_nat q (by decide)
  have hk : k < 64 := by have e1 : (63 : Int32).toInt = 63 := rfl; omega
  have hw : ∀ u, g_X9_code_j28 F (nI k) a2 a3 a4 a5 u = some (1, rg_R (rg_R (rg_R (rg_R u 2 k a2) 3 k a3) 4 k a4) 5 k a5) := fun u => by
    unfold g_X9_code_j28
    rw [c_write hk, ob_i]
  rw [hw]
  simp only [lt1_i, ck_t (inb_nI hk (by decide))]
  by_cases q1 : a2 = -1
  · subst q1
    have z : ¬ g_X10_isFine (-1) a3 a4 a5 = 0 := fun q => absurd (show (1 : Int32) = 0 from q) (by decide)
    rw [if_pos rfl, if_neg z]
    exact both_i rfl rfl
  · rw [if_neg q1, instr_fine q1, ob_i]
    by_cases q2 : g_X10_isFine a2 a3 a4 a5 = 0
    · rw [if_pos q2, if_pos q2]; exact both_i rfl rfl
    · rw [if_neg q2, if_neg q2]; exact both_i rfl rfl
theorem fr_spacing {a1 a2 : Int32} (hc : frC uc) (hm : frM um) : Both (g_X9_spacing F a1 a2 uc) (g_X10_spacing F a1 a2 um) := by
  unfold g_X9_spacing g_X10_spacing
  rw [cl_unit, cl_depth, sp_iff]
  by_cases q : g_X10_isIn a1 1 64 = 0
  · exact ⟨(0, uc), (0, um), by rw [if_pos q], by rw [if_pos q, if_pos rfl], rfl⟩
  rw [if_neg q, if_neg q]
  by_cases q2 : g_X10_isIn a2 1 8 = 0
  · exact ⟨(0, uc), (0, um), by rw [if_pos q2], by rw [if_pos q2], rfl⟩
  · rw [if_neg q2, if_neg q2]; exact both_i rfl rfl
theorem fr_begin (hF : 10000 < F) (hc : frC uc) (hm : frM um) : Both (g_X9_begin F uc) (g_X10_begin F um) := by
  obtain ⟨v, -, -, e1⟩ := c_begin (u := uc) hF
  obtain ⟨w, e2, -⟩ := m_begin (u := um) hF
  exact ⟨_, _, e1, e2, by rw [cntK_0 64 hc.2.2.2.2.2.2.2.2.2, cntK_0 64 hm.2.2.2.2.2.2.2]⟩
theorem fr_seed {a1 : Int32} (hc : frC uc) (hm : frM um) : Both (g_X9_seed F a1 uc) (g_X10_seed F a1 um) := ⟨_, _, rfl, rfl, by
  show rF uc 6 3 = rF um 0 34
  rw [hc.2.2.2.2.2.2.2.1, hm.2.2.2.2.1]⟩
theorem sh0 {y : Int32} : (dx_shr 0 y &&& 1) = 0 := by
  show ((0 : Int32) >>> (y &&& 31)) &&& 1 = 0
  rw [Int32.zero_shiftRight]
  rfl
theorem fr_watch {a1 a2 : Int32} (hc : frC uc) (hm : frM um) : Both (g_X9_watch F a1 a2 uc) (g_X10_watch F a1 a2 um) := by
  have hw : g_X9_isWatched F a1 uc = some 0 := by
    unfold g_X9_isWatched
    have n1 : ¬ (0 : Int32) = 1 := by decide
    rw [hc.2.2.2.1, hc.2.2.2.2.1, sh0, sh0, if_neg n1]
    by_cases q : g_X9_isPlace a1 = 0
    · rw [if_pos q]
    · rw [if_neg q]
      by_cases q2 : (8 : Int32) ≤ a1
      · rw [if_pos q2]
      · rw [if_neg q2]
  unfold g_X9_watch g_X10_watch
  rw [hw, ob_i, cl_place]
  by_cases q : g_X10_isPlace a1 = 0
  · exact ⟨(0, uc), (0, um), by rw [if_pos q], by rw [if_pos q], rfl⟩
  rw [if_neg q, if_neg q]
  obtain ⟨k, rfl, h1, h2⟩ := in_nat (v := a1) q (by decide)
  have hk : k < 40 := by have e1 : (39 : Int32).toInt = 39 := rfl; omega
  rw [ck_t (inb_nI hk (by decide)), ck_t (inb_nI hk (by decide)), rA_nI (by omega), hm.2.2.2.2.2.2.1 k]
  by_cases q2 : (0 : Int32) = a2
  · exact ⟨(0, uc), (0, um), by rw [if_pos q2], by rw [if_pos q2], rfl⟩
  rw [if_neg q2, if_neg q2]
  by_cases q3 : (8 : Int32) ≤ nI k
  · rw [if_pos q3]; exact both_i rfl rfl
  · rw [if_neg q3]; exact both_i rfl rfl
theorem fr_use {a1 : Int32} (hc : frC uc) (hm : frM um) : Both (g_X9_use F a1 uc) (g_X10_use F a1 um) := by
  unfold g_X9_use g_X10_use
  rw [fr_kept hc, ob_i, hm.2.1, i32_n0, if_pos rfl, if_pos rfl]
  by_cases q : a1 = -1
  · rw [if_pos q, if_pos q]; exact both_i rfl rfl
  · rw [if_neg q, if_neg q]; exact both_i rfl rfl
theorem fr_wOf {a n : Nat} (hF : 10000 < F) (ha : a + n ≤ 40) (hm : frM um) : g_X10_watchedOf F (nI a) (nI n) um = some 0 := by
  unfold g_X10_watchedOf
  have h := lp_up (body := fun (s : Int32 × Int32) => g_X10_watchedOf_l5 F (nI a) (nI n) um s.1 s.2) (fun k => ((0 : Int32), nI k)) n 0 (fun k hk => by
    show g_X10_watchedOf_l5 F (nI a) (nI n) um 0 (nI k) = _
    unfold g_X10_watchedOf_l5
    rw [if_neg (nI_ge hk (by omega)), nI_add, ck_t (inb_nI (by omega) (by decide)), rA_nI (by omega), hm.2.2.2.2.2.2.1, if_pos rfl]
    unfold g_X10_watchedOf_j32
    rw [nI_1]; rfl) (by
    show g_X10_watchedOf_l5 F (nI a) (nI n) um 0 (nI n) = _
    unfold g_X10_watchedOf_l5
    rw [if_pos (nI_le (Nat.le_refl _) (by omega))]) F 0 (Nat.zero_le _) (by omega)
  rw [nI_0] at h
  rw [h]
  rfl
theorem fr_look {a1 : Int32} (hF : 10000 < F) (hc : frC uc) (hm : frM um) : Both (lf1 (g_X9_look F a1) uc) (lf1 (g_X10_look F a1) um) := by
  have hx : ∃ r, g_X9_look F a1 uc = some r ∧ g_X10_look F a1 um = some r := by
    unfold g_X9_look g_X10_look
    have w1 : g_X10_watchedOf F 0 8 um = some 0 := fr_wOf (a := 0) (n := 8) hF (by omega) hm
    have w2 : g_X10_watchedOf F 8 32 um = some 0 := fr_wOf (a := 8) (n := 32) hF (by omega) hm
    rw [hc.2.1, fr_num hc, ob_i, om_0, fr_ask hm, ob_i, ck_t (by decide), if_pos hm.1, w1, ob_i, w2, ob_i, hm.2.1, hm.2.2.2.1, hm.2.2.2.2.1, hm.2.2.2.2.2.1]
    unfold g_X9_look_j24 g_X9_lookAtRun_n g_X10_isIn
    rw [hc.2.2.1, hc.2.2.2.1, hc.2.2.2.2.1, hc.2.2.2.2.2.1, hc.2.2.2.2.2.2.1, hc.2.2.2.2.2.2.2.1, ob_i]
    by_cases q1 : a1 < 0
    · rw [if_pos q1, if_pos q1, if_pos rfl]
      refine ex2 ?_
      (repeat' split) <;> exact ⟨_, rfl⟩
    · rw [if_neg q1, if_neg q1]
      by_cases q2 : (6 : Int32) < a1
      · rw [if_pos q2, if_pos q2, if_pos rfl]
        refine ex2 ?_
        (repeat' split) <;> exact ⟨_, rfl⟩
      · rw [if_neg q2, if_neg q2, if_neg (by decide)]; exact ⟨_, rfl, rfl⟩
  obtain ⟨r, e1, e2⟩ := hx
  exact ⟨(r, uc), (r, um), by unfold lf1; rw [e1]; rfl, by unfold lf1; rw [e2]; rfl, rfl⟩
end FR
