/-! the class: every call returns (code, spacing, begin, watch, keep, use), and what lies there first -/
section WKP
variable {F o o' j s : Nat} {x y z v i a b c d e : Int32} {u0 u w : rg_U}
theorem okX_s (h : okX u) (e1 : w.1 = u.1) (e2 : w.2.2 = u.2.2) : okX w := by
  unfold okX wkB wkG
  rw [e1, e2]
  exact h
theorem okX_w (h : okX u) (hX : wkX u w) : okX w := ⟨hX.1, wx_G h.2 hX⟩
theorem okX_n {k : Nat} (h : okX u) (hb : wkN k) : okX (rg_F u k v) := by
  refine ⟨fun p hp => ?_, h.2⟩
  show 0 ≤ (upd u.1 k v p.1).toInt ∧ (upd u.1 k v p.1).toInt ≤ p.2
  rw [pk_un (hb p hp)]
  exact h.1 p hp
theorem okX_start : okX uL_RunsBack := by
  refine ⟨(by decide +kernel : ∀ p, p ∈ wkL → 0 ≤ (uL_RunsBack.1 p.1).toInt ∧ (uL_RunsBack.1 p.1).toInt ≤ p.2), Or.inl rfl, fun k hk => ?_, fun k hk => ?_⟩
  · rcases (show k = 0 ∨ k = 1 ∨ k = 2 ∨ k = 3 by omega) with rfl | rfl | rfl | rfl <;> rfl
  · have h : ∀ k : Fin 101, uL_RunsBack.2.2.2 9 k.val = some (10 + k.val) := by decide +kernel
    exact h ⟨k, hk⟩
/-- code: whether it answers 1, and what it writes -/
theorem c_code : (g_X10_isIn a 0 63 = 0 ∨ g_X10_isFine b c d e = 0) ∧ g_X9_code F a b c d e u = some (0, u) ∨ ∃ k, k < 64 ∧ a = nI k ∧ ¬ g_X10_isFine b c d e = 0 ∧ g_X9_code F a b c d e u = some (1, wr4 u 2 k b c d e) := by
  unfold g_X9_code
  rw [cl_ipl]
  by_cases q : g_X10_isIn a 0 63 = 0
  · exact Or.inl ⟨Or.inl q, by rw [if_pos q]⟩
  rw [if_neg q]
  obtain ⟨k, hk, rfl⟩ := isIn63 q
  have hw : ∀ u, g_X9_code_j28 F (nI k) b c d e u = some (1, wr4 u 2 k b c d e) := fun u => by
    unfold g_X9_code_j28
    rw [c_write hk, ob_i]
    rfl
  rw [hw]
  by_cases q1 : b = -1
  · subst q1
    have z : ¬ g_X10_isFine (-1) c d e = 0 := fun q => absurd (show (1 : Int32) = 0 from q) (by decide)
    rw [if_pos rfl]
    exact Or.inr ⟨k, hk, rfl, z, rfl⟩
  · rw [if_neg q1, instr_fine q1, ob_i]
    by_cases q2 : g_X10_isFine b c d e = 0
    · rw [if_pos q2]; exact Or.inl ⟨Or.inr q2, rfl⟩
    · rw [if_neg q2]; exact Or.inr ⟨k, hk, rfl, q2, rfl⟩
theorem c_spacing : (g_X10_isSpacing x y = 0 ∧ g_X9_spacing F x y u = some (0, u)) ∨ (¬ g_X10_isSpacing x y = 0 ∧ g_X9_spacing F x y u = some (1, sF (sF u 0 9 x) 0 10 y)) := by
  unfold g_X9_spacing
  rw [cl_unit, cl_depth, sp_iff]
  by_cases q : g_X10_isIn x 1 64 = 0
  · rw [if_pos q, if_pos q]; exact Or.inl ⟨rfl, rfl⟩
  rw [if_neg q, if_neg q]
  by_cases q2 : g_X10_isIn y 1 8 = 0
  · rw [if_pos q2]; exact Or.inl ⟨q2, rfl⟩
  · rw [if_neg q2]; exact Or.inr ⟨q2, rfl⟩
theorem ox_code (h : okX u) : Tt (g_X9_code F a b c d e u) (fun z => okX z.2) := by
  rcases c_code (F := F) (a := a) (b := b) (c := c) (d := d) (e := e) (u := u) with q | ⟨k, -, -, -, q⟩
  · exact ⟨_, q.2, h⟩
  · exact ⟨_, q, okX_s h rfl rfl⟩
theorem ox_spacing (h : okX u) : Tt (g_X9_spacing F x y u) (fun z => okX z.2) := by
  rcases c_spacing (F := F) (x := x) (y := y) (u := u) with q | q
  · exact ⟨_, q.2, h⟩
  · exact ⟨_, q.2, okX_n (okX_n h (by decide)) (by decide)⟩
theorem wkB_up {k : Nat} (h : wkB u) (hv : 0 ≤ v.toInt ∧ v.toInt ≤ 3) (hb : ∀ p, p ∈ wkL → p.1 = k → 3 ≤ p.2) : wkB (rg_F u k v) := fun p hp => by
  show 0 ≤ (upd u.1 k v p.1).toInt ∧ (upd u.1 k v p.1).toInt ≤ p.2
  by_cases q : p.1 = k
  · rw [q, pk_us]
    have := hb p hp q
    exact ⟨hv.1, by omega⟩
  · rw [pk_un q]; exact h p hp
theorem ox_begin (h : okX u) (hF : 10000 < F) : Tt (g_X9_begin F u) (fun z => okX z.2) := by
  obtain ⟨v, h0, -, e⟩ := c_begin (u := u) hF
  refine ⟨_, e, ?_⟩
  have hv : wkB v := fun p hp => by
    rw [h0.1]
    exact h.1 p hp
  have hG : wkG v := by
    unfold wkG
    rw [h0.2]
    exact ⟨Or.inr rfl, h.2.2⟩
  refine ⟨?_, hG⟩
  have z0 : 0 ≤ (0 : Int32).toInt ∧ (0 : Int32).toInt ≤ 3 := by decide
  have z1 : 0 ≤ (1 : Int32).toInt ∧ (1 : Int32).toInt ≤ 3 := by decide
  unfold c_begun
  have n1 : ∀ {k : Nat} {u : rg_U} {v : Int32}, wkB u → wkN k → wkB (rg_F u k v) := fun {k u v} hu hb p hp => by
    show 0 ≤ (upd u.1 k v p.1).toInt ∧ (upd u.1 k v p.1).toInt ≤ p.2
    rw [pk_un (hb p hp)]
    exact hu p hp
  repeat' first
    | exact hv
    | refine wkB_up ?_ z0 (by decide)
    | refine wkB_up ?_ z1 (by decide)
    | refine n1 ?_ (by decide)
    | (show wkB _; assumption)
theorem ox_watch (h : okX u) : Tt (g_X9_watch F x y u) (fun z => okX z.2) := by
  unfold g_X9_watch
  exact tt_if (fun _ => tt_s h) (fun _ => tt_ob z_isWatched (fun _ _ => tt_if (fun _ => tt_s h) (fun _ => tt_if (fun _ => tt_lt (tt_s (okX_n h (by decide)))) (fun _ => tt_lt (tt_s (okX_n h (by decide)))))))
theorem ox_use (h : okX u) : Tt (g_X9_use F x u) (fun z => okX z.2) := by
  unfold g_X9_use
  exact tt_if (fun _ => tt_lt (tt_s (okX_n h (by decide)))) (fun _ => tt_ob z_isKept (fun _ _ => tt_if (fun _ => tt_s h) (fun _ => tt_lt (tt_s (okX_n h (by decide))))))
/-- keep: refused, or the room of its number is filled -/
theorem c_keepW (h : okX u) (hF : 10000 < F) : (¬ (rG u 0 7 = some 116 ∧ (rF u 0 6).toInt < 4) ∧ g_X9_keep F u = some (-1, u)) ∨ ∃ k w, k < 4 ∧ rG u 0 7 = some 116 ∧ rF u 0 6 = nI k ∧ wkX u w ∧ g_X9_keep F u = some (nI k, sF w 0 6 (nI (k + 1))) := by
  have hX := wx_r h.1
  have h6 : 0 ≤ (rF u 0 6).toInt ∧ (rF u 0 6).toInt ≤ 4 := h.1 (6, 4) (by decide)
  obtain ⟨r, e, hr⟩ := z_room (F := F) (x := rF u 0 6) h.2
  unfold g_X9_keep
  rw [e, ob_i]
  by_cases q : (rF u 0 6).toInt < 4
  · obtain ⟨k, hk, ek, er⟩ := hr.1 ⟨h6.1, q⟩
    rw [er, om_i, ck_t (rn_room hk)]
    rcases h.2.1 with e7 | e7
    · rw [show rG u 0 7 = none from e7, om_0]
      exact Or.inl ⟨fun z => (by have := z.1; cases this), rfl⟩
    · rw [show rG u 0 7 = some 116 from e7]
      simp only [om_i]
      have h116 : isRn 116 := Or.inl rfl
      rw [ck_t h116, ck_t h116, ck_t h116]
      obtain ⟨st, est, -⟩ := z_status (F := F) (o := 116) (u := u)
      obtain ⟨w, ew, hw⟩ := k_take7 (F := F) (o := 151 + 34 * k) (o' := 116) (x := st) hX (rn_room hk) h116 (by omega) hF
      rw [est, ob_i, ew, ob_i, lt1_i]
      have e6 : rF w 0 6 = nI k := by rw [← ek]; exact hw.2.1 6 (by decide)
      refine Or.inr ⟨k, w, hk, trivial, ek, hw, ?_⟩
      rw [e6, nI_1]
      have : rF (sF w 0 6 (nI (k + 1))) 0 6 - 1 = nI k := by
        show nI (k + 1) - 1 = nI k
        exact nI_pred k
      rw [this]
  · have er := hr.2 (fun z => by have := z.2; omega)
    rw [er, om_0]
    rcases h.2.1 with e7 | e7
    · rw [show rG u 0 7 = none from e7, om_0]
      exact Or.inl ⟨fun z => (by have := z.1; cases this), rfl⟩
    · rw [show rG u 0 7 = some 116 from e7, om_i, ck_t (Or.inl rfl)]
      exact Or.inl ⟨fun z => q z.2, rfl⟩
theorem ox_keep (h : okX u) (hF : 10000 < F) : Tt (g_X9_keep F u) (fun z => okX z.2) := by
  rcases c_keepW h hF with q | ⟨k, w, hk, -, -, hw, e⟩
  · exact ⟨_, q.2, h⟩
  · refine ⟨_, e, fun p hp => ?_, (show wkG w from wx_G h.2 hw)⟩
    show 0 ≤ (upd w.1 6 (nI (k + 1)) p.1).toInt ∧ (upd w.1 6 (nI (k + 1)) p.1).toInt ≤ p.2
    by_cases q : p.1 = 6
    · rw [q, pk_us, nI_toInt (by omega)]
      have : p.2 = 4 := (show wkT 6 4 by decide) p hp q
      omega
    · rw [pk_un q]; exact hw.1 p hp
end WKP
