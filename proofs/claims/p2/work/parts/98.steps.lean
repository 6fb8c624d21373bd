/-! code, spacing, would, gap, sparing: what they answer hangs on what they are asked alone; all calls return on both sides -/
def I_L (_ : Nat) (uc um : rg_U) : Prop := okX uc ∧ okA um
theorem I_start : I_L 0 uL_RunsBack uL_RunsBackModel := ⟨okX_start, okA_start⟩
theorem I_skip {k : Nat} {uc um : rg_U} (h : I_L k uc um) : I_L (k + 1) uc um := h
def CM (g : rg_U → Option (Int32 × rg_U)) : Prop := ∀ u, okX u → Tt (g u) (fun z => okX z.2)
theorem sc_i {gc gm : rg_U → Option (Int32 × rg_U)} {cmp : Bool} {k : Nat} (hc : CM gc) (hm : SM gm) (ha : cmp = true → ∀ uc um zc zm, okX uc → okA um → gc uc = some zc → gm um = some zm → zc.1 = zm.1) : SC2 gc gm cmp (I_L k) (I_L (k + 1)) := fun uc um hI => by
  obtain ⟨zc, e1, h1⟩ := hc uc hI.1
  obtain ⟨zm, e2, h2⟩ := hm um hI.2
  exact ⟨zc, zm, e1, e2, fun q => ha q uc um zc zm hI.1 hI.2 e1 e2, h1, h2⟩
theorem cm_w {g : rg_U → Option (Int32 × rg_U)} (h : ∀ u, wkX u u → wkG u → Tt (g u) (fun z => wkX u z.2)) : CM g := fun u hu => tt_w (h u (wx_r hu.1) hu.2) (fun _ hz => okX_w hu hz)
theorem cm_l {g : rg_U → Option Int32} (h : ∀ u, wkX u u → wkG u → Tt (g u) (fun _ => True)) : CM (lf1 g) := fun u hu => by
  obtain ⟨r, e, -⟩ := h u (wx_r hu.1) hu.2
  exact ⟨(r, u), by unfold lf1; rw [e, ob_i], hu⟩
theorem of_all {gc gm : rg_U → Option Int32} (h : ∀ u v, ∃ r, gc u = some r ∧ gm v = some r) {uc um : rg_U} {zc zm : Int32 × rg_U} (e1 : lf1 gc uc = some zc) (e2 : lf1 gm um = some zm) : zc.1 = zm.1 := by
  obtain ⟨r, h1, h2⟩ := h uc um
  have q1 := (lf1_some e1).1
  have q2 := (lf1_some e2).1
  rw [h1] at q1
  rw [h2] at q2
  exact (Option.some.inj q1).symm.trans (Option.some.inj q2)
theorem an_code {F : Nat} {a b c d e : Int32} {uc um : rg_U} {zc zm : Int32 × rg_U} (hm : okA um) (e1 : g_X9_code F a b c d e uc = some zc) (e2 : g_X10_code F a b c d e um = some zm) : zc.1 = zm.1 := by
  obtain ⟨K, W, h⟩ := hm
  rcases c_code (F := F) (a := a) (b := b) (c := c) (d := d) (e := e) (u := uc) with ⟨n1, q1⟩ | ⟨k, hk, ek, y1, q1⟩ <;> rcases m_code (F := F) (a1 := a) (a2 := b) (a3 := c) (a4 := d) (a5 := e) h with ⟨n2, q2⟩ | ⟨k2, hk2, ek2, y2, q2, -⟩ <;> rw [q1] at e1 <;> rw [q2] at e2 <;> cases e1 <;> cases e2
  · rfl
  · rcases n1 with z | z
    · rw [ek2] at z
      exact absurd z (in_nI (a := 0) (b := 63) (by omega) (by omega) (by decide))
    · exact absurd z y2
  · rcases n2 with z | z
    · rw [ek] at z
      exact absurd z (in_nI (a := 0) (b := 63) (by omega) (by omega) (by decide))
    · exact absurd z y1
  · rfl
theorem an_spacing {F : Nat} {x y : Int32} {uc um : rg_U} {zc zm : Int32 × rg_U} (hm : okA um) (e1 : g_X9_spacing F x y uc = some zc) (e2 : g_X10_spacing F x y um = some zm) : zc.1 = zm.1 := by
  obtain ⟨K, W, h⟩ := hm
  rcases c_spacing (F := F) (x := x) (y := y) (u := uc) with ⟨n1, q1⟩ | ⟨y1, q1⟩ <;> rcases m_spacing (F := F) (x := x) (y := y) h with ⟨n2, q2⟩ | ⟨y2, q2, -⟩ <;> rw [q1] at e1 <;> rw [q2] at e2 <;> cases e1 <;> cases e2
  · rfl
  · exact absurd n1 y2
  · exact absurd n2 y1
  · rfl
theorem I_steps {L k : Nat} (hL : L ≤ 3072) (hk : 6 * k + 6 ≤ L) : LawSteps 100000 cmp_L (I_L k) (I_L (k + 1)) := by
  have hF : 10000 < 100000 := by decide
  have hy : ∀ a2 : Int32, (if a2 = 0 then (0 : Int32) else 1) = 0 ∨ (if a2 = 0 then (0 : Int32) else 1) = 1 := fun a2 => it_b (Or.inl rfl) (Or.inr rfl)
  intro a1 a2 a3 a4 a5
  refine ⟨?_, ?_, ?_, ?_, ?_, ?_, ?_, ?_, ?_, ?_, ?_, ?_, ?_, ?_, ?_, ?_, ?_, ?_, ?_, ?_, ?_, ?_, ?_, ?_, ?_, ?_, ?_, ?_, ?_, ?_, ?_⟩
  · exact sc_i (fun _ h => ox_code h) sm_code (fun _ uc um zc zm _ hm e1 e2 => an_code hm e1 e2)
  · exact sc_i (fun _ h => ox_spacing h) sm_spacing (fun _ uc um zc zm _ hm e1 e2 => an_spacing hm e1 e2)
  · exact sc_i (fun _ h => ox_begin h hF) (sm_begin hF) (fun q => absurd q (by decide))
  · exact sc_i (cm_w fun _ h hG => wk_give h hG) sm_give (fun q => absurd q (by decide))
  · exact sc_i (cm_w fun _ h _ => wk_seed h) sm_seed (fun q => absurd q (by decide))
  · exact sc_i (cm_w fun _ h hG => wk_poke h hG) sm_poke (fun q => absurd q (by decide))
  · exact sc_i (cm_w fun _ h hG => wk_run h hG hF) (sm_run hF) (fun q => absurd q (by decide))
  · exact sc_i (fun _ h => ox_watch h) (sm_watch (hy a2)) (fun q => absurd q (by decide))
  · exact sc_i (cm_w fun _ h hG => wk_back h hG hF) (sm_back hF) (fun q => absurd q (by decide))
  · exact sc_i (fun _ h => ox_keep h hF) (sm_keep hF) (fun q => absurd q (by decide))
  · exact sc_i (fun _ h => ox_use h) sm_use (fun q => absurd q (by decide))
  · exact sc_i (cm_w fun _ h hG => wk_at h hG hF) (sm_at hF) (fun q => absurd q (by decide))
  · exact sc_i (cm_w fun _ h hG => wk_state h hG hF) (sm_state hF) (fun q => absurd q (by decide))
  · exact sc_i (cm_w fun _ h hG => wk_last h hG hF) (sm_last hF) (fun q => absurd q (by decide))
  · exact sc_i (cm_w fun _ h hG => wk_when h hG hF) (sm_when hF) (fun q => absurd q (by decide))
  · exact sc_i (cm_w fun _ h hG => wk_changed h hG hF) (sm_changed hF) (fun q => absurd q (by decide))
  · exact sc_i (cm_w fun _ h hG => wk_watched h hG hF) (sm_watched hF) (fun q => absurd q (by decide))
  · exact sc_i (cm_w fun _ h hG => wk_rests h hG hF) (sm_rests hF) (fun q => absurd q (by decide))
  · exact sc_i (cm_w fun _ h hG => wk_hangs h hG hF) (sm_hangs hF) (fun q => absurd q (by decide))
  · exact sc_i (cm_l fun _ h hG => wk_history h hG hF) (sm_history hF) (fun q => absurd q (by decide))
  · exact sc_i (cm_l fun _ h hG => wk_done h hG hF) (sm_done hF) (fun q => absurd q (by decide))
  · exact sc_i (cm_l fun _ _ hG => wk_call hG) sm_call (fun q => absurd q (by decide))
  · exact sc_i (cm_l fun _ _ hG => wk_log hG) sm_log (fun q => absurd q (by decide))
  · exact sc_i (cm_l fun _ _ hG => wk_held hG) (sm_held hF) (fun q => absurd q (by decide))
  · exact sc_i (cm_l fun u _ _ => (would_all hF a1 a2 a3 u u).imp fun _ e => ⟨e.1, trivial⟩) (sm_would hF) (fun _ uc um zc zm _ _ e1 e2 => of_all (would_all hF a1 a2 a3) e1 e2)
  · exact sc_i (cm_l fun u _ _ => (gap_all hF a1 a2 a3 u u).imp fun _ e => ⟨e.1, trivial⟩) (sm_gap hF) (fun _ uc um zc zm _ _ e1 e2 => of_all (gap_all hF a1 a2 a3) e1 e2)
  · exact sc_i (cm_l fun u _ _ => (sparing_all hF a1 a2 a3 u u).imp fun _ e => ⟨e.1, trivial⟩) (sm_sparing hF) (fun _ uc um zc zm _ _ e1 e2 => of_all (sparing_all hF a1 a2 a3) e1 e2)
  · exact sc_i (cm_w fun _ h hG => wk_align h hG hF) (sm_align hF) (fun q => absurd q (by decide))
  · exact sc_i (cm_w fun _ h hG => wk_pair h hG hF) (sm_pair hF) (fun q => absurd q (by decide))
  · exact sc_i (cm_w fun _ h hG => wk_parts h hG hF) (sm_parts hF) (fun q => absurd q (by decide))
  · exact sc_i (cm_l fun _ _ hG => wk_look hG) (sm_look hF) (fun q => absurd q (by decide))
