/-! p1: one call at most -/
def I_L : Nat → rg_U → rg_U → Prop
  | 0, uc, um => frC uc ∧ frM um
  | _ + 1, _, _ => True
theorem I_start : I_L 0 uL_RunsBack uL_RunsBackModel := ⟨frC_0, frM_0⟩
theorem I_skip {k : Nat} {uc um : rg_U} (_ : I_L k uc um) : I_L (k + 1) uc um := trivial
theorem of_both {gc gm : rg_U → Option (Int32 × rg_U)} {cmp : Bool} (h : ∀ uc um, frC uc → frM um → Both (gc uc) (gm um)) : SC2 gc gm cmp (I_L 0) (I_L 1) := fun uc um hI => by
  obtain ⟨zc, zm, e1, e2, e3⟩ := h uc um hI.1 hI.2
  exact ⟨zc, zm, e1, e2, fun _ => e3, trivial⟩
theorem of_ex {F : Nat} {gc gm : rg_U → Option Int32} (h : ∀ u v, ∃ r, gc u = some r ∧ gm v = some r) (uc um : rg_U) : Both (lf1 gc uc) (lf1 gm um) := by
  obtain ⟨r, e1, e2⟩ := h uc um
  exact both_i (u := uc) (v := um) (by unfold lf1; rw [e1]; rfl) (by unfold lf1; rw [e2]; rfl)
theorem I_steps {L k : Nat} (hL : L ≤ 6) (hk : 6 * k + 6 ≤ L) : LawSteps 100000 cmp_L (I_L k) (I_L (k + 1)) := by
  have hk : k = 0 := by omega
  subst hk
  have hF : 10000 < 100000 := by decide
  intro a1 a2 a3 a4 a5
  exact ⟨of_both fun _ _ hc hm => fr_code hc hm, of_both fun _ _ hc hm => fr_spacing hc hm, of_both fun _ _ hc hm => fr_begin hF hc hm, of_both fun _ _ hc hm => fr_give hc hm, of_both fun _ _ hc hm => fr_seed hc hm, of_both fun _ _ hc hm => fr_poke hc hm, of_both fun _ _ hc hm => fr_run hc hm, of_both fun _ _ hc hm => fr_watch hc hm, of_both fun _ _ hc hm => fr_back hc hm, of_both fun _ _ hc hm => fr_keep hc hm, of_both fun _ _ hc hm => fr_use hc hm, of_both fun _ _ hc hm => fr_at hc hm, of_both fun _ _ hc hm => fr_state hc hm, of_both fun _ _ hc hm => fr_last hc hm, of_both fun _ _ hc hm => fr_when hc hm, of_both fun _ _ hc hm => fr_changed hc hm, of_both fun _ _ hc hm => fr_watched hc hm, of_both fun _ _ hc hm => fr_rests hc hm, of_both fun _ _ hc hm => fr_hangs hc hm, of_both fun _ _ hc hm => fr_history hc hm, of_both fun _ _ hc hm => fr_done hc hm, of_both fun _ _ hc hm => fr_call hc hm, of_both fun _ _ hc hm => fr_log hc hm, of_both fun _ _ hc hm => fr_held hc hm, of_both fun uc um _ _ => of_ex (F := 0) (fun u v => would_all hF a1 a2 a3 u v) uc um, of_both fun uc um _ _ => of_ex (F := 0) (fun u v => gap_all hF a1 a2 a3 u v) uc um, of_both fun uc um _ _ => of_ex (F := 0) (fun u v => sparing_all hF a1 a2 a3 u v) uc um, of_both fun _ _ hc hm => fr_align hc hm, of_both fun _ _ hc hm => fr_pair hc hm, of_both fun _ _ hc hm => fr_parts hc hm, of_both fun _ _ hc hm => fr_look hF hc hm⟩
