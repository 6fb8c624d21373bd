/-! FROM THE LAW'S ENTRY TO THE LAYER -/
def R_law : String := "RunsBackLaw"
abbrev M_L_law : pm_M := (x, code, maxLocals, ret)
theorem pm_roomdown {s : State} {pl : Platform} {R R' : Room} (h : s.hasRoom pl R = true) (h1 : R'.frames ≤ R.frames) (h2 : R'.cells ≤ R.cells) (h3 : R'.slots ≤ R.slots) (h4 : R'.locals ≤ R.locals) : s.hasRoom pl R' = true := by
  unfold State.hasRoom at h ⊢
  simp only [Bool.and_eq_true, decide_eq_true_eq] at h ⊢
  obtain ⟨⟨⟨⟨a1, a2, a3, a4, a5, a6⟩, a7⟩, a8⟩, a9⟩ := h
  refine ⟨⟨⟨⟨?_, ?_, ?_, ?_, ?_, a6⟩, ?_⟩, ?_⟩, a9⟩ <;> omega
theorem pm_down {p : Program} {l : Launch} {e : Env} {R R' : Room} {s : State} {m : MethodId} {args : Array Value} {below : List Frame} {meth : Method} {c : Code} {H : Heap} {locs : List Loc} {cells slots : Nat} {Q : State → Prop} {g : JFrame} (h1 : R'.frames ≤ R.frames) (h2 : R'.cells ≤ R.cells) (h3 : R'.slots ≤ R.slots) (h4 : R'.locals ≤ R.locals) (h : W p l e R' s m args below meth c H locs cells slots Q g) : W p l e R s m args below meth c H locs cells slots Q g := fun T hT X =>
  h T hT ⟨X.admits, X.cas, X.clock, X.frames, pm_roomdown X.room h1 h2 h3 h4, X.hears, X.method, X.code, X.here, X.tail, X.warmed, X.limits, X.bytes, X.same⟩
/-- the law's start, as the skeleton's lw_At has it, with the words in the layer's form -/
theorem pm_top {p : Program} {e : Env} {s : State} {m : MethodId} {below : List Frame} {meth : Method} {c : Code} (l : Launch) {b : Nat}
    (hx : p.tables.exec = Jvm.exec) (hb : c.code = code) (hr : meth.sig.returnType = ret) (hml : c.maxLocals = maxLocals) (hown : s.vm.findClass R_law = some m.cls) (hts : ∀ w ∈ lw_tbl, w.before #[Value.ref b] s = true) (hlk : meth.locks = false)
    {D : va_G} {cA : Nat → ClassId} (hK : va_K D vwCl (pm_tys cA) s) (hN : pm_N s)
    {d cells slots : Nat} (hd1 : d ≤ room_1.frames) (hd2 : 40 * d ≤ room_1.locals) (hc : cells = room_1.cells) (hs : slots = room_1.slots) (ad0 : Nat → Nat) (hb0 : ad0 2000000 = b) {gs : List String} {ro : pm_RO} (hR : pm_R ro ad0 (fun q => s.heap.size ≤ q) s) (hZ : pm_Z gs ad0 (fun q => s.heap.size ≤ q) s) (w0 : Nat → va_E) {L : List (Option Value)} (hL : pm_L0 M_L_law [.ref 2000000] = L)
    (hX : pm_X gs ro M_L_law d cells slots 0 0 0 L [] 0 w0 (fun r _ _ => r = some (.int 1))) :
    W p l e room_1 s m #[Value.ref b] below meth c s.heap [] 0 0 (fun t => ∃ o, t.status = .running ∧ Ended t below o ∧ o = .returned (some (.int 1)) ∧ Framed s o t [] room_1.cells room_1.slots) (entryFrame m ([Value.ref b] : List Value).toArray maxLocals) := by
  subst hL
  subst hc
  subst hs
  refine pm_down (R' := pm_rm d room_1.cells room_1.slots) hd1 (Nat.le_refl _) (Nat.le_refl _) hd2 ?_
  have hav : ([Value.ref b] : List Value) = ([Value.ref 2000000] : List Value).map (pm_v ad0) := by
    show [Value.ref b] = [Value.ref (ad0 2000000)]
    rw [hb0]
  have hent : entryFrame m ([Value.ref b] : List Value).toArray maxLocals = F0 m 0 ((lg_sl (([Value.ref 2000000] : List Value).map (pm_v ad0)) ++ List.replicate (maxLocals - (lg_sl (([Value.ref 2000000] : List Value).map (pm_v ad0))).length) Slot.unset).toArray) [] := by
    rw [hav]
    exact lg_entry_eq _ _ _
  rw [hent]
  have hl := lv_entry (([Value.ref 2000000] : List Value).map (pm_v ad0)) (n := maxLocals) (by rw [pm_slen _ (fun u hu => by rw [List.mem_singleton.mp hu]; rfl)]; exact Nat.le_of_ble_eq_true rfl)
  have hLL : ∀ (i : Nat) (v : Value), (pm_L0 M_L_law [.ref 2000000])[i]? = some (some v) → ((lg_sl (([Value.ref 2000000] : List Value).map (pm_v ad0)) ++ List.replicate (maxLocals - (lg_sl (([Value.ref 2000000] : List Value).map (pm_v ad0))).length) Slot.unset).toArray)[i]? = some (Slot.val (pm_v ad0 v)) ∧ pm_ok 0 v := by
    intro i v hi
    have hi2 : ([Value.ref 2000000] : List Value)[i]? = some v := by
      by_cases q : i < 1
      · rw [List.getElem?_append_left (by simpa using q), List.getElem?_map] at hi
        cases hq : ([Value.ref 2000000] : List Value)[i]? with
        | none => rw [hq] at hi; cases hi
        | some u => rw [hq] at hi; cases hi; rfl
      · rw [List.getElem?_append_right (by simp; omega)] at hi
        have := List.mem_of_getElem? hi
        rw [List.mem_replicate] at this
        cases this.2
    refine ⟨?_, ?_⟩
    · have := pm_args (ad := ad0) [Value.ref 2000000] 0 i v (fun u hu => by rw [List.mem_singleton.mp hu]; rfl) hi2
      rw [Nat.zero_add] at this
      exact hl.2.2 _ this
    · have := List.mem_of_getElem? hi2
      rw [List.mem_singleton.mp this]
      intro k q
      cases q
      exact Or.inr (by decide)
  intro T hT X
  obtain ⟨t, a1, o, b1, b2, ⟨⟨r, n', w', ad', ho, hq, -⟩, -⟩, L, hFE, hLb⟩ := hX p l e s m _ below meth c s.heap [] _ D cA ad0 ad0 0 (fun q => s.heap.size ≤ q) ⟨hx, hb, hml, hr, hlk, (fun q => by exact absurd q (by decide)), hown, fun x hx => hts x (List.mem_filter.mp hx).1, hK, fun q h => h, hR, hZ, hN⟩ ⟨fun k q h => by simp [pm_W] at h, ⟨fun i j p q h => by simp [pm_W] at h, fun k q h => by simp [pm_W] at h⟩, va_S.rf, Nat.le_refl _, by decide, fun _ _ => rfl, fun k h => absurd h (Nat.not_lt_zero k)⟩ ⟨hl.1, hl.2.1, hLL⟩ pm_S0 T hT X
  refine ⟨t, a1, o, b1, b2, ?_, hFE.1, hFE.2.1, hFE.2.2.weaken (fun y hy hlt => absurd hlt (Nat.not_lt.mpr (hLb y hy))) (Nat.le_refl _) (Nat.le_refl _)⟩
  rw [ho, hq]
  rfl
