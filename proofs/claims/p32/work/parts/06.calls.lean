theorem pm_good {x : Cond} (hx : x ∈ lw_g) : x ∈ lw_g ∧ ((x.onTables && x.keeps) = true ∨ ∃ ty, x = .arrayClass ty) := ⟨hx, good_of_word (List.mem_filter.mp hx).2⟩
theorem pm_N_warm {s U : State} (hW : s.WarmedH U.vm) (h : pm_N s) : pm_N U := ⟨fun own idx y host hm => (h.1 own idx y host hm).warmM hW, fun C hC => (h.2.1 C hC).moved hW.alike, fun hm => Stand.arrayOver_alikeB hW.alike (h.2.2 hm)⟩
theorem pm_N_same {u U : State} (hvm : u.vm = U.vm) (h : pm_N u) : pm_N U := ⟨fun own idx y host hm => (h.1 own idx y host hm).same rfl hvm, fun C hC => (h.2.1 C hC).moved (by rw [hvm]; exact Vm.Alike.refl _), fun hm => Stand.arrayOver_alikeB (by rw [hvm]; exact Vm.Alike.refl _) (h.2.2 hm)⟩
/-- a method's word stands in the tables -/
def pm_in (M : pm_M) : Prop := Cond.code M.1 M.2.1 M.2.2.1 M.2.2.2 ∈ lw_g ∧ plainName M.1.cls = true ∧ M.2.2.1 ≤ 21 ∧ M.1.cls ≠ "java/lang/invoke/MethodHandle" ∧ M.1.cls ≠ "java/lang/invoke/VarHandle" ∧ Cond.initialized M.1.cls ∈ lw_g
theorem pm_goodIn {M' : pm_M} (h : pm_in M') : GoodIn lw_g (pm_ws M') := fun x hx => by
  rcases List.mem_cons.mp hx with q | q
  · rw [q]; exact pm_good h.1
  · exact pm_good q
/-- A METHOD'S CONTRACT: called with these arguments in this world it returns, and Q holds of its answer and of the world then -/
def pm_Met (gs : List String) (ro : pm_RO) (M : pm_M) (d mc ms : Nat) (av : List Value) (n : Nat) (w : Nat → va_E) (Q : Option Value → Nat → (Nat → va_E) → Prop) : Prop :=
  ∀ (l : Launch) (D : va_G) (cA : Nat → ClassId) (ad : Nat → Nat) (sz : Nat), n < 1000000 → pm_wk n w → pm_S n av →
    Met l M.1 (pm_ws M) (pm_rm d mc ms) (va_Pc (av.map (pm_v ad)) (fun U => U.heap.size = sz ∧ va_P D vwCl (pm_W cA ad n w) U.heap ∧ va_K D vwCl (pm_tys cA) U ∧ va_D (fun _ => True) (pm_W cA ad n w) ∧ pm_R ro ad (va_A (pm_W cA ad n w) sz) U ∧ pm_Z gs ad (va_A (pm_W cA ad n w) sz) U ∧ pm_N U)) (pm_Q D cA ad n (va_A (pm_W cA ad n w) sz) Q) mc ms (va_A (pm_W cA ad n w) sz)
theorem pm_args {ad : Nat → Nat} : ∀ (av : List Value) (i j : Nat) (v : Value), (∀ u ∈ av, u.category = 1) → av[j]? = some v → (i + j, pm_v ad v) ∈ lv_args i (av.map (pm_v ad))
  | [], i, j, v, _, h => by simp at h
  | u :: av, i, 0, v, hc, h => by
    simp at h
    subst h
    exact List.mem_cons_self
  | u :: av, i, j + 1, v, hc, h => by
    show _ ∈ (i, pm_v ad u) :: lv_args (if (pm_v ad u).category = 2 then i + 2 else i + 1) (av.map (pm_v ad))
    rw [if_neg (by rw [pm_v_cat, hc u List.mem_cons_self]; decide)]
    have := pm_args (ad := ad) av (i + 1) j v (fun q hq => hc q (List.mem_cons_of_mem _ hq)) (by simpa using h)
    rw [show i + (j + 1) = i + 1 + j by omega]
    exact List.mem_cons_of_mem _ this
theorem pm_slen {ad : Nat → Nat} : ∀ (av : List Value), (∀ u ∈ av, u.category = 1) → (lg_sl (av.map (pm_v ad))).length = av.length
  | [], _ => rfl
  | u :: av, hc => by
    have ih := pm_slen (ad := ad) av (fun q hq => hc q (List.mem_cons_of_mem _ hq))
    show ((if (pm_v ad u).category = 2 then [Slot.val (pm_v ad u), Slot.second] else [Slot.val (pm_v ad u)]) ++ lg_sl (av.map (pm_v ad))).length = av.length + 1
    rw [if_neg (by rw [pm_v_cat, hc u List.mem_cons_self]; decide), List.length_append, ih]
    simp
    omega
/-- the locals at a method's entry -/
abbrev pm_L0 (M : pm_M) (av : List Value) : List (Option Value) := av.map some ++ List.replicate (M.2.2.1 - av.length) none
theorem pm_ofX {gs : List String} {ro : pm_RO} {M : pm_M} {d mc ms : Nat} {av : List Value} {n : Nat} {w : Nat → va_E} {Q : Option Value → Nat → (Nat → va_E) → Prop} (hM : pm_in M) (hlen : av.length ≤ M.2.2.1) (hcat : av.all (fun v => v.category == 1) = true) {L : List (Option Value)} (hL : pm_L0 M av = L) (hx : pm_X gs ro M d mc ms 0 0 0 L [] n w Q) : pm_Met gs ro M d mc ms av n w Q := by
  subst hL
  have hcat : ∀ u ∈ av, u.category = 1 := fun u hu => by have := List.all_eq_true.mp hcat u hu; simpa using this
  intro l D cA ad sz hn hwk hav
  refine Met.ofW (cc := M.2.1) (maxL := M.2.2.1) (ret := M.2.2.2) hM.2.1 rfl ?_
  intro p e s m args below meth c s₁ B hml hv
  obtain ⟨rfl, hsz, hP, hK, hD0, hR, hZ, hN⟩ := hv
  subst hsz
  have hts : ∀ w ∈ lw_g, w.before _ s = true := fun x hx => atoms_spec (ws := pm_ws M) B.pre x (List.mem_cons_of_mem _ hx)
  have hown : s.vm.findClass M.1.cls = some m.cls := findClass_of_methodNamed B.named
  have hnm := (name_of_methodNamed B.named B.method).1
  have hD := hD0.self (sz := s.heap.size)
  rw [lg_entry_eq]
  have hl := lv_entry (av.map (pm_v ad)) (n := M.2.2.1) (by rw [pm_slen av hcat]; exact hlen)
  refine hx p l e s m _ below meth c s.heap [] _ D cA ad ad n (va_A (pm_W cA ad n w) s.heap.size) ⟨B.exec, B.bytes, hml, B.returns, B.notSynchronized, (fun q => hnm.trans q), hown, hts, hK, fun q h => Or.inr h, hR, hZ, hN⟩ ⟨hP, hD, va_S.rf, Nat.le_refl _, hn, fun _ _ => rfl, hwk⟩ ⟨hl.1, hl.2.1, fun i v hi => ?_⟩ pm_S0
  have hi2 : av[i]? = some v := by
    by_cases q : i < av.length
    · rw [List.getElem?_append_left (by rw [List.length_map]; exact q), List.getElem?_map] at hi
      cases hq : av[i]? with
      | none => rw [hq] at hi; cases hi
      | some u => rw [hq] at hi; cases hi; rfl
    · rw [List.getElem?_append_right (by rw [List.length_map]; omega)] at hi
      have := List.mem_of_getElem? hi
      rw [List.mem_replicate] at this
      cases this.2
  refine ⟨?_, hav v (List.mem_of_getElem? hi2)⟩
  have := pm_args (ad := ad) av 0 i v hcat hi2
  rw [Nat.zero_add] at this
  exact hl.2.2 _ this
theorem pm_R_go {ro roc : pm_RO} {ad ad0 : Nat → Nat} {A B : Nat → Prop} {s U : State} {H : Heap} {n0 : Nat} (hro : ∀ k v, roc k = some v → ro k = some v) (h : pm_R ro ad0 A s) (hU : U.heap = H) (hvm : s.vm.Alike U.vm) (hS : ∀ q : Nat, q < s.heap.size → ¬ A q → H[q]? = s.heap[q]?) (hB : ∀ q, B q → A q) (hag : pm_ag n0 ad0 ad) : pm_R roc ad B U := fun k N f hk => by
  obtain ⟨h1, h2⟩ := h k N f (hro k _ hk)
  refine ⟨h1, ?_⟩
  rw [hag k (Or.inr h1), hU]
  exact ((h2.moved hvm).kept hS).narrow hB
theorem pm_Z_go {gs : List String} {ad ad0 : Nat → Nat} {A B : Nat → Prop} {s U : State} {H : Heap} {n0 : Nat} (h : pm_Z gs ad0 A s) (hU : U.heap = H) (hvm : s.vm.Alike U.vm) (hS : ∀ q : Nat, q < s.heap.size → ¬ A q → H[q]? = s.heap[q]?) (hB : ∀ q, B q → A q) (hag : pm_ag n0 ad0 ad) : pm_Z gs ad B U := fun j nm hj => by
  rw [hag (1000000 + j) (Or.inr (Nat.le_add_right _ _)), hU]
  exact (((h j nm hj).moved hvm).kept hS).narrow hB
theorem pm_ag_tr {n0 n : Nat} {a b c : Nat → Nat} (hn : n0 ≤ n) (h : pm_ag n0 a b) (h2 : pm_ag n b c) : pm_ag n0 a c := fun k hk => (h2 k (hk.imp (fun q => Nat.lt_of_lt_of_le q hn) id)).trans (h k hk)
theorem pm_L_ag {nL n n' : Nat} {ls : Array Slot} {ad ad' : Nat → Nat} {L : List (Option Value)} (h : pm_L nL ls ad n L) (hn : n ≤ n') (hag : pm_ag n ad ad') : pm_L nL ls ad' n' L := ⟨h.1, h.2.1, fun i v hi => by
  obtain ⟨h1, h2⟩ := h.2.2 i v hi
  exact ⟨by rw [pm_v_ag hag h2]; exact h1, pm_okm hn h2⟩⟩
theorem pm_A_in {A : Nat → Prop} {cA : Nat → ClassId} {ad : Nat → Nat} {n : Nat} {w : Nat → va_E} {H0 H : Heap} {locs : List Loc} (hD : va_D A (pm_W cA ad n w)) (hS : va_S A H0 H locs) (hA : ∀ q, H0.size ≤ q → A q) : ∀ q, va_A (pm_W cA ad n w) H.size q → A q := fun q h => by
  rcases h with ⟨k, e, hk⟩ | h
  · exact hD.2 k _ hk
  · exact hA q (Nat.le_trans hS.1 h)
section PMC
variable {gs : List String} {ro roc : pm_RO} {M Mc : pm_M} {d dc mc ms c0 s0 mcc msc pc : Nat} {L : List (Option Value)} {st As : List Value} {n : Nat} {w : Nat → va_E} {Q Qc : Option Value → Nat → (Nat → va_E) → Prop}
/-- behind a call -/
theorem pm_behind {p : Program} {l : Launch} {e : Env} {s : State} {m : MethodId} {args : Array Value} {below : List Frame} {meth : Method} {c : Code} {H : Heap} {locs : List Loc} {ls : Array Slot} {D : va_G} {cA : Nat → ClassId} {ad ad0 : Nat → Nat} {n0 : Nat} {A : Nat → Prop} {st0 : List Value} {a : Array Value}
    (F : pm_F gs ro M p s m args meth c D cA ad0 A) (G : pm_G s D cA ad0 n0 A H locs ad n w) (LL : pm_L M.2.2.1 ls ad n L) (SS : pm_S n st)
    (hr : va_Run p l e (pm_rm d mc ms) s m args below meth c H locs c0 s0 mcc msc (F0 m pc ls st0) (st.map (pm_v ad)) (pm_Q D cA ad n (va_A (pm_W cA ad n w) H.size) Qc a) (va_A (pm_W cA ad n w) H.size))
    (kk : ∀ r n' w', Qc r n' w' → n ≤ n' → pm_X gs ro M d mc ms (c0 + mcc) (s0 + msc) (pc + 3) L (r.toList ++ st) n' w' Q) :
    W p l e (pm_rm d mc ms) s m args below meth c H locs c0 s0 (MQ below (pm_Q D cA ad0 n0 A Q) args s mc ms A) (F0 m pc ls st0) := by
  have hAin := pm_A_in G.2.1 G.2.2.1 F.2.2.2.2.2.2.2.2.2.1
  intro T hT X
  obtain ⟨v, st₀, t, T', Lc, h0, X', hLc, e1, e2, ⟨⟨r, n', w', ad', hv, hq, hn, hn6, hag, hwk, hok, hP, hK, hD⟩, hz, hk⟩, stp⟩ := hr T hT X
  cases hv
  rw [h0] at hz hk
  have hS' : va_S A s.heap T'.heap (locs ++ Lc) := by
    refine ⟨Nat.le_trans G.2.2.1.1 (by rw [e1]; exact hz), fun q h1 h2 => ?_, fun q hq => ?_⟩
    · rw [e1, hk q (Nat.lt_of_lt_of_le h1 G.2.2.1.1) (fun z => h2 (hAin q z))]
      exact G.2.2.1.2.1 q h1 h2
    · rcases List.mem_append.mp hq with h | h
      · exact G.2.2.1.2.2 q h
      · exact hAin _ (hLc q h)
  have hD' : va_D A (pm_W cA ad' n' w') := ⟨hD.1, fun k q h => hAin _ (hD.2 k q h)⟩
  have hstk : (Option.map (pm_v ad') r).toList ++ st.map (pm_v ad) = (r.toList ++ st).map (pm_v ad') := by
    rw [List.map_append, pm_vs_ag hag SS]
    cases r <;> rfl
  have SS' : pm_S n' (r.toList ++ st) := fun u hu => by
    rcases List.mem_append.mp hu with h | h
    · cases r with
      | none => cases h
      | some v => rw [List.mem_singleton.mp h]; exact hok v rfl
    · exact pm_okm hn (SS u h)
  have K := kk r n' w' hq hn p l e s m args below meth c T'.heap (locs ++ Lc) ls D cA ad' ad0 n0 A F ⟨by rw [e1]; exact hP, hD', hS', Nat.le_trans G.2.2.2.1 hn, hn6, pm_ag_tr G.2.2.2.1 G.2.2.2.2.2.1 hag, hwk⟩ (pm_L_ag LL hn hag) SS'
  rw [← hstk] at K
  obtain ⟨t2, a1, b1⟩ := K T' rfl X'
  exact ⟨t2, stp t2 a1, b1⟩
theorem pm_pre {s U : State} {args : Array Value} {m : MethodId} {p : Program} {meth : Method} {c : Code} {H : Heap} {locs : List Loc} {D : va_G} {cA : Nat → ClassId} {ad ad0 : Nat → Nat} {n0 : Nat} {A : Nat → Prop} (hro : ∀ k v, roc k = some v → ro k = some v)
    (F : pm_F gs ro M p s m args meth c D cA ad0 A) (G : pm_G s D cA ad0 n0 A H locs ad n w) (hU : U.heap = H) (hWm : s.WarmedH U.vm) : U.heap.size = H.size ∧ va_P D vwCl (pm_W cA ad n w) U.heap ∧ va_K D vwCl (pm_tys cA) U ∧ va_D (fun _ => True) (pm_W cA ad n w) ∧ pm_R roc ad (va_A (pm_W cA ad n w) H.size) U ∧ pm_Z gs ad (va_A (pm_W cA ad n w) H.size) U ∧ pm_N U := by
  have hW := hWm.alike
  have hAin := pm_A_in G.2.1 G.2.2.1 F.2.2.2.2.2.2.2.2.2.1
  exact ⟨by rw [hU], by rw [hU]; exact G.1, va_K.moved hW F.2.2.2.2.2.2.2.2.1, ⟨G.2.1.1, fun _ _ _ => trivial⟩, pm_R_go hro F.2.2.2.2.2.2.2.2.2.2.1 hU hW G.2.2.1.2.1 hAin G.2.2.2.2.2.1, pm_Z_go F.2.2.2.2.2.2.2.2.2.2.2.1 hU hW G.2.2.1.2.1 hAin G.2.2.2.2.2.1, pm_N_warm hWm F.2.2.2.2.2.2.2.2.2.2.2.2⟩
theorem pm_blind {roc : pm_RO} {av : List Value} {D : va_G} {cA : Nat → ClassId} {ad : Nat → Nat} {n sz : Nat} {w : Nat → va_E} : FrameBlind (va_Pc (av.map (pm_v ad)) (fun U => U.heap.size = sz ∧ va_P D vwCl (pm_W cA ad n w) U.heap ∧ va_K D vwCl (pm_tys cA) U ∧ va_D (fun _ => True) (pm_W cA ad n w) ∧ pm_R roc ad (va_A (pm_W cA ad n w) sz) U ∧ pm_Z gs ad (va_A (pm_W cA ad n w) sz) U ∧ pm_N U)) := fun a U g mk q => by
  obtain ⟨q0, q1, qP, qK, qD, qR, qZ, qN⟩ := q
  exact ⟨q0, q1, qP, va_K.moved (u := U) (U := U.calling g mk a) (Vm.Alike.refl U.vm) qK, qD, fun k N f hk => ⟨(qR k N f hk).1, (qR k N f hk).2.moved (u := U) (U := U.calling g mk a) (Vm.Alike.refl U.vm)⟩, fun j nm hj => (qZ j nm hj).moved (u := U) (U := U.calling g mk a) (Vm.Alike.refl U.vm), pm_N_same (u := U) (U := U.calling g mk a) rfl qN⟩
/-- the words of a call -/
def pm_lV (own : String) (idx : Nat) (Mc : pm_M) (k : Nat) : Prop := pm_in Mc ∧ Cond.methodLink own idx Mc.1 ∈ lw_g ∧ Cond.instanceMethod Mc.1 ∈ lw_g ∧ Cond.selects Mc.1.cls Mc.1 Mc.1 ∈ lw_g ∧ (parseMethodDescriptor Mc.1.desc).map (fun d => d.parameters.length) = some k
def pm_lS (own : String) (idx : Nat) (Mc : pm_M) (k : Nat) : Prop := pm_in Mc ∧ Cond.methodLink own idx Mc.1 ∈ lw_g ∧ Cond.static Mc.1 ∈ lw_g ∧ (parseMethodDescriptor Mc.1.desc).map (fun d => d.parameters.length) = some k
def pm_lI (own : String) (idx : Nat) (Mc : pm_M) (k : Nat) : Prop := pm_in Mc ∧ Cond.methodLink own idx Mc.1 ∈ lw_g ∧ Cond.instanceMethod Mc.1 ∈ lw_g ∧ Mc.1.name = "<init>" ∧ Mc.2.2.2 = none ∧ (parseMethodDescriptor Mc.1.desc).map (fun d => d.parameters.length) = some k
def pm_nV (own : String) (idx : Nat) (Mc : pm_M) (host : String) (k : Nat) : Prop := pm_in Mc ∧ Cond.methodLinkNest own idx Mc.1 host ∈ lw_tbl ∧ Cond.instanceMethod Mc.1 ∈ lw_g ∧ Cond.selects Mc.1.cls Mc.1 Mc.1 ∈ lw_g ∧ (parseMethodDescriptor Mc.1.desc).map (fun d => d.parameters.length) = some k
def pm_nS (own : String) (idx : Nat) (Mc : pm_M) (host : String) (k : Nat) : Prop := pm_in Mc ∧ Cond.methodLinkNest own idx Mc.1 host ∈ lw_tbl ∧ Cond.static Mc.1 ∈ lw_g ∧ (parseMethodDescriptor Mc.1.desc).map (fun d => d.parameters.length) = some k
def pm_nI (own : String) (idx : Nat) (Mc : pm_M) (host : String) (k : Nat) : Prop := pm_in Mc ∧ Cond.methodLinkNest own idx Mc.1 host ∈ lw_tbl ∧ Cond.instanceMethod Mc.1 ∈ lw_g ∧ Mc.1.name = "<init>" ∧ Mc.2.2.2 = none ∧ (parseMethodDescriptor Mc.1.desc).map (fun d => d.parameters.length) = some k
theorem pm_room (h : dc + 1 ≤ d) (hM : pm_in Mc) : (pm_rm dc mcc msc).frames + 1 ≤ (pm_rm d mc ms).frames ∧ 8 + (Mc.2.2.1 + 11) + (pm_rm dc mcc msc).locals ≤ (pm_rm d mc ms).locals := by
  refine ⟨h, ?_⟩
  have := hM.2.2.1
  show 8 + (Mc.2.2.1 + 11) + 40 * dc ≤ 40 * d
  omega
theorem pm_lvroom {m : MethodId} {ls : Array Slot} {ad : Nat → Nat} {st0 : List Value} (h : (st.map fun v => v.category).sum ≤ 8) : 2 * (F0 m pc ls st0).monitorRoom + ((st.map (pm_v ad)).map fun v => v.category).sum ≤ 8 := by
  have e1 : (st.map (pm_v ad)).map (fun v => v.category) = st.map fun v => v.category := by
    rw [List.map_map]
    exact List.map_congr_left fun v _ => pm_v_cat ad v
  exact lv_room (by rw [e1]; exact h)
theorem pm_callV {idx b ci : Nat} {fs : List Value} (h : decode M.2.1 pc = .ok (.invokevirtual idx, 3)) (hl : pm_lV M.1.cls idx Mc As.length) (hcl : ∃ T N, vwCl[ci]? = some (Mc.1.cls, T, N)) (hb : b < n) (hw : w b = .inr (ci, fs)) (hro : ∀ k v, roc k = some v → ro k = some v) (hd : dc + 1 ≤ d) (hc : c0 + mcc ≤ mc) (hs : s0 + msc ≤ ms) (hst : (st.map fun v => v.category).sum ≤ 8) {st0 : List Value} (hst0 : As.reverse ++ .ref b :: st = st0)
    (hM : pm_Met gs roc Mc dc mcc msc (.ref b :: As) n w Qc) (kk : ∀ r n' w', Qc r n' w' → n ≤ n' → pm_X gs ro M d mc ms (c0 + mcc) (s0 + msc) (pc + 3) L (r.toList ++ st) n' w' Q) : pm_X gs ro M d mc ms c0 s0 pc L st0 n w Q := by
  subst hst0
  intro p l e s m args below meth c H locs ls D cA ad ad0 n0 A F G LL SS
  obtain ⟨hin, hml, him, hse, hpar⟩ := hl
  obtain ⟨T, N, hcl⟩ := hcl
  have hts := F.2.2.2.2.2.2.2.1
  have SSt : pm_S n st := fun u hu => SS u (List.mem_append_right _ (List.mem_cons_of_mem _ hu))
  have SSa : pm_S n (.ref b :: As) := fun u hu => by
    rcases List.mem_cons.mp hu with q | q
    · rw [q]; exact pm_okr hb
    · exact SS u (List.mem_append_left _ (List.mem_reverse.mpr q))
  have hgi : GoodIn lw_g (wsV M.1.cls idx Mc.1.cls Mc.1 (pm_ws Mc)) := fun x hx => by
    unfold wsV at hx
    rcases List.mem_append.mp hx with q | q
    · simp only [List.mem_cons, List.not_mem_nil, or_false] at q
      rcases q with rfl | rfl | rfl | rfl
      · exact pm_good hml
      · exact pm_good him
      · exact pm_good hse
      · exact pm_good hin.2.2.2.2.2
    · exact pm_goodIn hin x q
  refine pm_behind F G LL SSt (va_runV (As := As.map (pm_v ad)) (b := ad b) (n := As.length) ⟨F.1, F.2.1, F.2.2.1, F.2.2.2.2.2.2.1, hts⟩ (hM l D cA ad H.size G.2.2.2.2.1 G.2.2.2.2.2.2 SSa) (cwV As.length hts hgi rfl rfl rfl ⟨rfl, hin.2.2.2.1, hin.2.2.2.2.1, hpar⟩ (pm_room hd hin)) ⟨pm_blind, va_recv (cl := vwCl) (q0 := b) F.2.2.2.2.2.2.2.2.1 G.1 hcl (fs := fs.map (pm_v ad)) (by rw [pm_W_get hb, hw]; rfl), fun U hU hWm => ⟨rfl, pm_pre hro F G hU hWm⟩⟩ rfl (by rw [List.length_map]) (LL.1) (by show _ = _; rw [List.map_append, List.map_reverse]; rfl) (pm_lvroom hst) h ⟨hc, hs⟩) kk
theorem pm_callVN {idx b ci : Nat} {host : String} {fs : List Value} (h : decode M.2.1 pc = .ok (.invokevirtual idx, 3)) (hl : pm_nV M.1.cls idx Mc host As.length) (hcl : ∃ T N, vwCl[ci]? = some (Mc.1.cls, T, N)) (hb : b < n) (hw : w b = .inr (ci, fs)) (hro : ∀ k v, roc k = some v → ro k = some v) (hd : dc + 1 ≤ d) (hc : c0 + mcc ≤ mc) (hs : s0 + msc ≤ ms) (hst : (st.map fun v => v.category).sum ≤ 8) {st0 : List Value} (hst0 : As.reverse ++ .ref b :: st = st0)
    (hM : pm_Met gs roc Mc dc mcc msc (.ref b :: As) n w Qc) (kk : ∀ r n' w', Qc r n' w' → n ≤ n' → pm_X gs ro M d mc ms (c0 + mcc) (s0 + msc) (pc + 3) L (r.toList ++ st) n' w' Q) : pm_X gs ro M d mc ms c0 s0 pc L st0 n w Q := by
  subst hst0
  intro p l e s m args below meth c H locs ls D cA ad ad0 n0 A F G LL SS
  obtain ⟨hin, hml, him, hse, hpar⟩ := hl
  obtain ⟨T, N, hcl⟩ := hcl
  have hts := F.2.2.2.2.2.2.2.1
  have SSt : pm_S n st := fun u hu => SS u (List.mem_append_right _ (List.mem_cons_of_mem _ hu))
  have SSa : pm_S n (.ref b :: As) := fun u hu => by
    rcases List.mem_cons.mp hu with q | q
    · rw [q]; exact pm_okr hb
    · exact SS u (List.mem_append_left _ (List.mem_reverse.mpr q))
  refine pm_behind F G LL SSt (va_runVN (As := As.map (pm_v ad)) (b := ad b) (n := As.length) ⟨F.1, F.2.1, F.2.2.1, F.2.2.2.2.2.2.1, hts⟩ (hM l D cA ad H.size G.2.2.2.2.1 G.2.2.2.2.2.2 SSa) ⟨va_cnB As.length hts (pm_goodIn hin) rfl rfl rfl (F.2.2.2.2.2.2.2.2.2.2.2.2.1 _ _ _ _ hml) (pm_hts hts hin.2.2.2.2.2) ⟨hin.2.2.2.1, hin.2.2.2.2.1, hpar⟩ (pm_room hd hin), pm_hts hts him, pm_hts hts hse⟩ ⟨pm_blind, va_recv (cl := vwCl) (q0 := b) F.2.2.2.2.2.2.2.2.1 G.1 hcl (fs := fs.map (pm_v ad)) (by rw [pm_W_get hb, hw]; rfl), fun U hU hWm => ⟨rfl, pm_pre hro F G hU hWm⟩⟩ rfl (by rw [List.length_map]) (LL.1) (by show _ = _; rw [List.map_append, List.map_reverse]; rfl) (pm_lvroom hst) h ⟨hc, hs⟩) kk
theorem pm_callS {idx : Nat} (h : decode M.2.1 pc = .ok (.invokestatic idx, 3)) (hl : pm_lS M.1.cls idx Mc As.length) (hro : ∀ k v, roc k = some v → ro k = some v) (hd : dc + 1 ≤ d) (hc : c0 + mcc ≤ mc) (hs : s0 + msc ≤ ms) (hst : (st.map fun v => v.category).sum ≤ 8) {st0 : List Value} (hst0 : As.reverse ++ st = st0)
    (hM : pm_Met gs roc Mc dc mcc msc As n w Qc) (kk : ∀ r n' w', Qc r n' w' → n ≤ n' → pm_X gs ro M d mc ms (c0 + mcc) (s0 + msc) (pc + 3) L (r.toList ++ st) n' w' Q) : pm_X gs ro M d mc ms c0 s0 pc L st0 n w Q := by
  subst hst0
  intro p l e s m args below meth c H locs ls D cA ad ad0 n0 A F G LL SS
  obtain ⟨hin, hml, him, hpar⟩ := hl
  have hts := F.2.2.2.2.2.2.2.1
  have SSt : pm_S n st := fun u hu => SS u (List.mem_append_right _ hu)
  have SSa : pm_S n As := fun u hu => SS u (List.mem_append_left _ (List.mem_reverse.mpr hu))
  have hgi : GoodIn lw_g (va_wsS M.1.cls idx Mc.1 (pm_ws Mc)) := fun x hx => by
    unfold va_wsS at hx
    rcases List.mem_append.mp hx with q | q
    · simp only [List.mem_cons, List.not_mem_nil, or_false] at q
      rcases q with rfl | rfl | rfl
      · exact pm_good hml
      · exact pm_good him
      · exact pm_good hin.2.2.2.2.2
    · exact pm_goodIn hin x q
  refine pm_behind F G LL SSt (va_runS (As := As.map (pm_v ad)) (n := As.length) ⟨F.1, F.2.1, F.2.2.1, F.2.2.2.2.2.2.1, hts⟩ (hM l D cA ad H.size G.2.2.2.2.1 G.2.2.2.2.2.2 SSa) (va_cwS As.length hts hgi rfl rfl rfl ⟨hin.2.2.2.1, hin.2.2.2.2.1, hpar⟩ (pm_room hd hin)) ⟨pm_blind, fun U hU hWm => ⟨rfl, pm_pre hro F G hU hWm⟩⟩ rfl (by rw [List.length_map]) (LL.1) (by show _ = _; rw [List.map_append, List.map_reverse]) (pm_lvroom hst) h ⟨hc, hs⟩) kk
theorem pm_callSN {idx : Nat} {host : String} (h : decode M.2.1 pc = .ok (.invokestatic idx, 3)) (hl : pm_nS M.1.cls idx Mc host As.length) (hro : ∀ k v, roc k = some v → ro k = some v) (hd : dc + 1 ≤ d) (hc : c0 + mcc ≤ mc) (hs : s0 + msc ≤ ms) (hst : (st.map fun v => v.category).sum ≤ 8) {st0 : List Value} (hst0 : As.reverse ++ st = st0)
    (hM : pm_Met gs roc Mc dc mcc msc As n w Qc) (kk : ∀ r n' w', Qc r n' w' → n ≤ n' → pm_X gs ro M d mc ms (c0 + mcc) (s0 + msc) (pc + 3) L (r.toList ++ st) n' w' Q) : pm_X gs ro M d mc ms c0 s0 pc L st0 n w Q := by
  subst hst0
  intro p l e s m args below meth c H locs ls D cA ad ad0 n0 A F G LL SS
  obtain ⟨hin, hml, him, hpar⟩ := hl
  have hts := F.2.2.2.2.2.2.2.1
  have SSt : pm_S n st := fun u hu => SS u (List.mem_append_right _ hu)
  have SSa : pm_S n As := fun u hu => SS u (List.mem_append_left _ (List.mem_reverse.mpr hu))
  refine pm_behind F G LL SSt (va_runSN (As := As.map (pm_v ad)) (n := As.length) ⟨F.1, F.2.1, F.2.2.1, F.2.2.2.2.2.2.1, hts⟩ (hM l D cA ad H.size G.2.2.2.2.1 G.2.2.2.2.2.2 SSa) ⟨va_cnB As.length hts (pm_goodIn hin) rfl rfl rfl (F.2.2.2.2.2.2.2.2.2.2.2.2.1 _ _ _ _ hml) (pm_hts hts hin.2.2.2.2.2) ⟨hin.2.2.2.1, hin.2.2.2.2.1, hpar⟩ (pm_room hd hin), pm_hts hts him, trivial⟩ ⟨pm_blind, fun U hU hWm => ⟨rfl, pm_pre hro F G hU hWm⟩⟩ rfl (by rw [List.length_map]) (LL.1) (by show _ = _; rw [List.map_append, List.map_reverse]) (pm_lvroom hst) h ⟨hc, hs⟩) kk
end PMC
