section PMN
variable {gs : List String} {ro roc : pm_RO} {M Mc : pm_M} {d dc mc ms c0 s0 mcc msc pc : Nat} {L : List (Option Value)} {st As : List Value} {n : Nat} {w : Nat → va_E} {Q Qc : Option Value → Nat → (Nat → va_E) → Prop}
theorem pm_callI {idx b : Nat} (h : decode M.2.1 pc = .ok (.invokespecial idx, 3)) (hl : pm_lI M.1.cls idx Mc As.length) (hb : b < n) (hro : ∀ k v, roc k = some v → ro k = some v) (hd : dc + 1 ≤ d) (hc : c0 + mcc ≤ mc) (hs : s0 + msc ≤ ms) (hst : (st.map fun v => v.category).sum ≤ 8) {st0 : List Value} (hst0 : As.reverse ++ .ref b :: st = st0)
    (hM : pm_Met gs roc Mc dc mcc msc (.ref b :: As) n w Qc) (kk : ∀ r n' w', Qc r n' w' → n ≤ n' → pm_X gs ro M d mc ms (c0 + mcc) (s0 + msc) (pc + 3) L (r.toList ++ st) n' w' Q) : pm_X gs ro M d mc ms c0 s0 pc L st0 n w Q := by
  subst hst0
  intro p l e s m args below meth c H locs ls D cA ad ad0 n0 A F G LL SS
  obtain ⟨y, cc, nL, ret⟩ := Mc
  obtain ⟨hin, hml, him, hnm, hret, hpar⟩ := hl
  cases hret
  have hts := F.2.2.2.2.2.2.2.1
  have SSt : pm_S n st := fun u hu => SS u (List.mem_append_right _ (List.mem_cons_of_mem _ hu))
  have SSa : pm_S n (.ref b :: As) := fun u hu => by
    rcases List.mem_cons.mp hu with q | q
    · rw [q]; exact pm_okr hb
    · exact SS u (List.mem_append_left _ (List.mem_reverse.mpr q))
  refine pm_behind F G LL SSt (va_runI (As := As.map (pm_v ad)) (b := ad b) (n := As.length) ⟨F.1, F.2.1, F.2.2.1, F.2.2.2.2.2.2.1, hts⟩ (hM l D cA ad H.size G.2.2.2.2.1 G.2.2.2.2.2.2 SSa) (cwI As.length hts (pm_goodIn hin) rfl rfl rfl (pm_hts hts hin.2.2.2.2.2) (pm_hts hts hml) (pm_hts hts him) hnm ⟨hin.2.2.2.1, hin.2.2.2.2.1, hpar⟩ (pm_room hd hin)) ⟨pm_blind, fun U hU hWm => ⟨rfl, pm_pre hro F G hU hWm⟩⟩ rfl (by rw [List.length_map]) (LL.1) (by show _ = _; rw [List.map_append, List.map_reverse]; rfl) (pm_lvroom hst) h ⟨hc, hs⟩) kk
theorem pm_callIN {idx b : Nat} {host : String} (h : decode M.2.1 pc = .ok (.invokespecial idx, 3)) (hl : pm_nI M.1.cls idx Mc host As.length) (hb : b < n) (hro : ∀ k v, roc k = some v → ro k = some v) (hd : dc + 1 ≤ d) (hc : c0 + mcc ≤ mc) (hs : s0 + msc ≤ ms) (hst : (st.map fun v => v.category).sum ≤ 8) {st0 : List Value} (hst0 : As.reverse ++ .ref b :: st = st0)
    (hM : pm_Met gs roc Mc dc mcc msc (.ref b :: As) n w Qc) (kk : ∀ r n' w', Qc r n' w' → n ≤ n' → pm_X gs ro M d mc ms (c0 + mcc) (s0 + msc) (pc + 3) L (r.toList ++ st) n' w' Q) : pm_X gs ro M d mc ms c0 s0 pc L st0 n w Q := by
  subst hst0
  intro p l e s m args below meth c H locs ls D cA ad ad0 n0 A F G LL SS
  obtain ⟨y, cc, nL, ret⟩ := Mc
  obtain ⟨hin, hml, him, hnm, hret, hpar⟩ := hl
  cases hret
  have hts := F.2.2.2.2.2.2.2.1
  have SSt : pm_S n st := fun u hu => SS u (List.mem_append_right _ (List.mem_cons_of_mem _ hu))
  have SSa : pm_S n (.ref b :: As) := fun u hu => by
    rcases List.mem_cons.mp hu with q | q
    · rw [q]; exact pm_okr hb
    · exact SS u (List.mem_append_left _ (List.mem_reverse.mpr q))
  refine pm_behind F G LL SSt (va_runIN (As := As.map (pm_v ad)) (b := ad b) (n := As.length) ⟨F.1, F.2.1, F.2.2.1, F.2.2.2.2.2.2.1, hts⟩ (hM l D cA ad H.size G.2.2.2.2.1 G.2.2.2.2.2.2 SSa) ⟨va_cnB As.length hts (pm_goodIn hin) rfl rfl rfl (F.2.2.2.2.2.2.2.2.2.2.2.2.1 _ _ _ _ hml) (pm_hts hts hin.2.2.2.2.2) ⟨hin.2.2.2.1, hin.2.2.2.2.1, hpar⟩ (pm_room hd hin), hnm, pm_hts hts him⟩ ⟨pm_blind, fun U hU hWm => ⟨rfl, pm_pre hro F G hU hWm⟩⟩ rfl (by rw [List.length_map]) (LL.1) (by show _ = _; rw [List.map_append, List.map_reverse]; rfl) (pm_lvroom hst) h ⟨hc, hs⟩) kk
/-- Object's own constructor -/
theorem pm_obj {idx b : Nat} (h : decode M.2.1 pc = .ok (.invokespecial idx, 3)) (h1 : Cond.methodLink M.1.cls idx Lib.objectInit ∈ lw_g) (h2 : Cond.instanceMethod Lib.objectInit ∈ lw_g) (h3 : Cond.code Lib.objectInit ⟨#[0xb1]⟩ 1 none ∈ lw_g) (hd : 1 ≤ d) (hst : (st.map fun v => v.category).sum ≤ 8) (kk : pm_X gs ro M d mc ms c0 s0 (pc + 3) L st n w Q) : pm_X gs ro M d mc ms c0 s0 pc L (.ref b :: st) n w Q := by
  intro p l e s m args below meth c H locs ls D cA ad ad0 n0 A F G LL SS
  have hts := F.2.2.2.2.2.2.2.1
  have hr := pm_lvroom (m := m) (pc := pc) (ls := ls) (ad := ad) (st0 := (.ref b :: st).map (pm_v ad)) hst
  refine W.objInit F.1 F.2.1 F.2.2.2.2.2.2.1 (pm_hts hts h1) (pm_hts hts h2) (pm_hts hts h3) rfl (by rw [F.2.2.1]; exact LL.1) (a := ad b) (rest := st.map (pm_v ad)) rfl h hd ?_ (kk p l e s m args below meth c H locs ls D cA ad ad0 n0 A F G LL (pm_St SS))
  show _ ≤ 40 * d
  omega
/-- what a made cell gives -/
theorem pm_made {p : Program} {l : Launch} {e : Env} {s : State} {m : MethodId} {args : Array Value} {below : List Frame} {meth : Method} {c : Code} {H1 : Heap} {locs : List Loc} {ls : Array Slot} {D : va_G} {cA : Nat → ClassId} {ad ad0 : Nat → Nat} {n0 : Nat} {A : Nat → Prop} {q c1 s1 pc' : Nat} {e0 : va_E} {rest : List Value}
    (F : pm_F gs ro M p s m args meth c D cA ad0 A) (hn0 : n0 ≤ n) (hn : n + 1 < 1000000) (hag : pm_ag n0 ad0 ad) (hwk : pm_wk n w) (LL : pm_L M.2.2.1 ls ad n L) (SS : pm_S n st) (he : pm_ek n e0)
    (hP : va_P D vwCl (pm_W cA ad n w ++ [(q, pm_e cA ad e0)]) H1) (hD : va_D A (pm_W cA ad n w ++ [(q, pm_e cA ad e0)])) (hS : va_S A s.heap H1 locs) (hrest : rest = .ref q :: st.map (pm_v ad))
    (kk : pm_X gs ro M d mc ms c1 s1 pc' L (.ref n :: st) (n + 1) (va_up w n e0) Q) : W p l e (pm_rm d mc ms) s m args below meth c H1 locs c1 s1 (MQ below (pm_Q D cA ad0 n0 A Q) args s mc ms A) (F0 m pc' ls rest) := by
  have hag1 : pm_ag n ad (va_up ad n q) := fun k hk => pm_up_n (by omega)
  rw [pm_W_push (by omega) hwk he] at hP hD
  have K := kk p l e s m args below meth c H1 locs ls D cA (va_up ad n q) ad0 n0 A F ⟨hP, hD, hS, Nat.le_succ_of_le hn0, hn, pm_ag_tr hn0 hag hag1, fun k hk => ?_⟩ (pm_L_ag LL (Nat.le_succ _) hag1) (pm_Sc (pm_okr (Nat.lt_succ_self _)) (fun u hu => pm_okm (Nat.le_succ _) (SS u hu)))
  · have e1 : (Value.ref n :: st).map (pm_v (va_up ad n q)) = rest := by
      rw [hrest]
      show Value.ref (va_up ad n q n) :: st.map (pm_v (va_up ad n q)) = _
      rw [pm_up_s, pm_vs_ag hag1 SS]
    rw [e1] at K
    exact K
  · by_cases hk2 : k = n
    · subst hk2; rw [pm_up_s]; exact pm_ekm (Nat.le_succ _) he
    · rw [pm_up_n hk2]; exact pm_ekm (Nat.le_succ _) (hwk k (by omega))
theorem pm_new {idx ci : Nat} {C : String} {T : u_T} {N : Nat} {ty : Nat → FieldType} {fs : List Value} (h : decode M.2.1 pc = .ok (.new idx, 3)) (hcl : pm_cl ci C T N ty) (h1 : Cond.classLink M.1.cls idx C ∈ lw_g) (h2 : Cond.instantiable C N ∈ lw_g) (h3 : Cond.initialized C ∈ lw_g) (hfs : ∀ j, j < N → defaultValue (ty j) = vp_V fs j) (hfs2 : fs.all (fun v => match v with | .ref _ => false | _ => true) = true) (hc : c0 + 1 ≤ mc) (hs : s0 + N ≤ ms) (hn : n + 1 < 1000000)
    (kk : pm_X gs ro M d mc ms (c0 + 1) (s0 + N) (pc + 3) L (.ref n :: st) (n + 1) (va_up w n (.inr (ci, fs))) Q) : pm_X gs ro M d mc ms c0 s0 pc L st n w Q := by
  intro p l e s m args below meth c H locs ls D cA ad ad0 n0 A F G LL SS
  obtain ⟨hc1, hin, hty, hnm⟩ := hcl
  have hts := F.2.2.2.2.2.2.2.1
  have hno : ∀ v ∈ fs, ∀ k, v ≠ .ref k := fun v hv k q => by
    have := List.all_eq_true.mp hfs2 v hv
    rw [q] at this
    cases this
  have hmap : fs.map (pm_v ad) = fs := by
    rw [List.map_congr_left (g := id) (fun v hv => ?_), List.map_id]
    cases v with
    | ref k => exact absurd rfl (hno _ hv k)
    | _ => rfl
  refine va_new (D := D) F.1 F.2.1 (Ts := lw_g) hts hin ty hty F.2.2.2.2.2.2.1 (pm_hts hts h1) (pm_hts hts h2) (pm_hts hts h3) F.2.2.2.2.2.2.2.2.1 G.1 G.2.1 G.2.2.1 F.2.2.2.2.2.2.2.2.2.1 hc1 (fs := fs) hfs hc hs h (fun q H1 hP hD hS => ?_)
  refine pm_made (e0 := .inr (ci, fs)) F G.2.2.2.1 hn G.2.2.2.2.2.1 G.2.2.2.2.2.2 LL SS (pm_eko fun v hv k q => absurd q (hno v hv k)) ?_ ?_ hS rfl kk
  · show va_P D vwCl (pm_W cA ad n w ++ [(q, .inr (ci, fs.map (pm_v ad)))]) H1
    rw [hmap]; exact hP
  · show va_D A (pm_W cA ad n w ++ [(q, .inr (ci, fs.map (pm_v ad)))])
    rw [hmap]; exact hD
theorem pm_newi {k : Int32} {N : Nat} (h : decode M.2.1 pc = .ok (.newarray .int, 2)) (h1 : Cond.arrayClass .int ∈ lw_g) (hk : ¬ k < 0) (hN : k.toNatClampNeg = N) (hb : N * 4 ≤ 536870912) (hc : c0 + 1 ≤ mc) (hs : s0 + N ≤ ms) (hn : n + 1 < 1000000)
    (kk : pm_X gs ro M d mc ms (c0 + 1) (s0 + N) (pc + 2) L (.ref n :: st) (n + 1) (va_up w n (.inl (0, N, .inl (fun _ => 0)))) Q) : pm_X gs ro M d mc ms c0 s0 pc L (.int k :: st) n w Q := by
  intro p l e s m args below meth c H locs ls D cA ad ad0 n0 A F G LL SS
  have hts := F.2.2.2.2.2.2.2.1
  refine va_newa (D := D) F.1 F.2.1 (atype := .int) (pm_hts hts h1) (ty := .int) rfl F.2.2.2.2.2.2.2.2.1 G.1 G.2.1 G.2.2.1 F.2.2.2.2.2.2.2.2.2.1 (a0 := (N, .inl (fun _ => 0))) (fun _ => rfl) hk hN hb hc hs h (fun q cB H1 hK hP hD hS => ?_)
  have e0 : cB = cA 0 := by
    have a1 := (hK.2 4 (cB, .int) rfl).2
    have a2 := (hK.2 0 (cA 0, .int) rfl).2
    exact Option.some.inj (a1.symm.trans a2)
  subst e0
  exact pm_made (e0 := .inl (0, N, .inl (fun _ => 0))) F G.2.2.2.1 hn G.2.2.2.2.2.1 G.2.2.2.2.2.2 LL (pm_St SS) pm_eki hP hD hS rfl kk
theorem pm_newz {k : Int32} {N : Nat} (h : decode M.2.1 pc = .ok (.newarray .boolean, 2)) (h1 : Cond.arrayClass .boolean ∈ lw_g) (hk : ¬ k < 0) (hN : k.toNatClampNeg = N) (hb : N * 1 ≤ 536870912) (hc : c0 + 1 ≤ mc) (hs : s0 + N ≤ ms) (hn : n + 1 < 1000000)
    (kk : pm_X gs ro M d mc ms (c0 + 1) (s0 + N) (pc + 2) L (.ref n :: st) (n + 1) (va_up w n (.inl (1, N, .inl (fun _ => 0)))) Q) : pm_X gs ro M d mc ms c0 s0 pc L (.int k :: st) n w Q := by
  intro p l e s m args below meth c H locs ls D cA ad ad0 n0 A F G LL SS
  have hts := F.2.2.2.2.2.2.2.1
  refine va_newa (D := D) F.1 F.2.1 (atype := .boolean) (pm_hts hts h1) (ty := .boolean) rfl F.2.2.2.2.2.2.2.2.1 G.1 G.2.1 G.2.2.1 F.2.2.2.2.2.2.2.2.2.1 (a0 := (N, .inl (fun _ => 0))) (fun _ => rfl) hk hN hb hc hs h (fun q cB H1 hK hP hD hS => ?_)
  have e0 : cB = cA 1 := by
    have a1 := (hK.2 4 (cB, .boolean) rfl).2
    have a2 := (hK.2 1 (cA 1, .boolean) rfl).2
    exact Option.some.inj (a1.symm.trans a2)
  subst e0
  exact pm_made (e0 := .inl (1, N, .inl (fun _ => 0))) F G.2.2.2.1 hn G.2.2.2.2.2.1 G.2.2.2.2.2.2 LL (pm_St SS) pm_eki hP hD hS rfl kk
/-- new Run[N] -/
theorem pm_newq {idx : Nat} {k : Int32} {N : Nat} (h : decode M.2.1 pc = .ok (.anewarray idx, 3)) (h1 : Cond.classLink M.1.cls idx RX7 ∈ lw_g) (h2 : Cond.arrayOver (.object RX7) ∈ lw_tbl) (hk : ¬ k < 0) (hN : k.toNatClampNeg = N) (hb : N * 4 ≤ 536870912) (hc : c0 + 1 ≤ mc) (hs : s0 + N ≤ ms) (hn : n + 1 < 1000000)
    (kk : pm_X gs ro M d mc ms (c0 + 1) (s0 + N) (pc + 3) L (.ref n :: st) (n + 1) (va_up w n (.inl (2, N, .inr (.inr (.inr (.inr (fun _ => none))))))) Q) : pm_X gs ro M d mc ms c0 s0 pc L (.int k :: st) n w Q := by
  intro p l e s m args below meth c H locs ls D cA ad ad0 n0 A F G LL SS
  have hts := F.2.2.2.2.2.2.2.1
  refine va_newq (D := D) F.1 F.2.1 F.2.2.2.2.2.2.1 (pm_hts hts h1) (F.2.2.2.2.2.2.2.2.2.2.2.2.2.1 _ h2) F.2.2.2.2.2.2.2.2.1 G.1 G.2.1 G.2.2.1 F.2.2.2.2.2.2.2.2.2.1 hk hN hb hc hs h (fun q cB H1 hK hP hD hS => ?_)
  have e0 : cB = cA 2 := by
    obtain ⟨_, _, -, -, -, a1⟩ := (hK.2 4 (cB, .object RX7) rfl).2
    obtain ⟨_, _, -, -, -, a2⟩ := (hK.2 2 (cA 2, .object RX7) rfl).2
    exact Option.some.inj (a1.symm.trans a2)
  subst e0
  exact pm_made (e0 := .inl (2, N, .inr (.inr (.inr (.inr (fun _ => none)))))) F G.2.2.2.1 hn G.2.2.2.2.2.1 G.2.2.2.2.2.2 LL (pm_St SS) (pm_ekq (fun i k q => by cases q)) hP hD hS rfl kk
/-- reading an array of Runs -/
theorem pm_aldq {a N : Nat} {g : Nat → Option Nat} {i : Int32} {v : Value} (h : decode M.2.1 pc = .ok (.aaload, 1)) (ha : a < n) (hw : w a = .inl (2, N, .inr (.inr (.inr (.inr g))))) (hi : vp_in i N) (hv : va_rf (g i.toNatClampNeg) = v) (kk : pm_X gs ro M d mc ms c0 s0 (pc + 1) L (v :: st) n w Q) : pm_X gs ro M d mc ms c0 s0 pc L (.int i :: .ref a :: st) n w Q := by
  subst hv
  intro p l e s m args below meth c H locs ls D cA ad ad0 n0 A F G LL SS
  have hok : pm_ok n (va_rf (g i.toNatClampNeg)) := by
    cases hg : g i.toNatClampNeg with
    | none => exact pm_okn
    | some k => exact pm_okr ((G.2.2.2.2.2.2 a ha).1 2 N g hw _ k hg)
  have K := kk p l e s m args below meth c H locs ls D cA ad ad0 n0 A F G LL (pm_Sc hok (pm_St (pm_St SS)))
  refine va_aldq (D := D) F.1 F.2.1 F.2.2.2.2.2.2.2.2.1 G.1 a 2 (cA := cA 2) (C := RX7) (n := N) (f := fun i => (g i).map ad) ?_ rfl hi h ?_
  · rw [pm_W_get ha, hw]; rfl
  · have e1 : pm_v ad (va_rf (g i.toNatClampNeg)) = va_rf ((g i.toNatClampNeg).map ad) := by cases g i.toNatClampNeg <;> rfl
    rw [← e1]
    exact K
theorem pm_mmax {idx : Nat} {x y : Int32} (h : decode M.2.1 pc = .ok (.invokestatic idx, 3)) (h1 : Cond.methodLink M.1.cls idx Lib.Math.max.name ∈ lw_g) (h2 : Cond.static Lib.Math.max.name ∈ lw_g) (h3 : Cond.initialized "java/lang/Math" ∈ lw_g) (h4 : Cond.code Lib.Math.max.name Lib.Math.max.code 2 (some .int) ∈ lw_g) (hd : 1 ≤ d) (hc : c0 ≤ mc) (hs : s0 ≤ ms) (hst : (st.map fun v => v.category).sum ≤ 8) (kk : pm_X gs ro M d mc ms c0 s0 (pc + 3) L (.int (if x < y then y else x) :: st) n w Q) : pm_X gs ro M d mc ms c0 s0 pc L (.int y :: .int x :: st) n w Q := by
  intro p l e s m args below meth c H locs ls D cA ad ad0 n0 A F G LL SS
  have hts := F.2.2.2.2.2.2.2.1
  have hr := pm_lvroom (m := m) (pc := pc) (ls := ls) (ad := ad) (st0 := st.map (pm_v ad)) hst
  refine va_mmax F.1 F.2.1 (F.2.2.1.trans LL.1.symm) F.2.2.2.2.2.2.1 (pm_hts hts h1) (pm_hts hts h2) (pm_hts hts h3) (pm_hts hts h4) hd ?_ hc hs h (kk p l e s m args below meth c H locs ls D cA ad ad0 n0 A F G LL (pm_Si (pm_St (pm_St SS))))
  show _ ≤ 40 * d
  omega
theorem pm_mmin {idx : Nat} {x y : Int32} (h : decode M.2.1 pc = .ok (.invokestatic idx, 3)) (h1 : Cond.methodLink M.1.cls idx Lib.Math.min.name ∈ lw_g) (h2 : Cond.static Lib.Math.min.name ∈ lw_g) (h3 : Cond.initialized "java/lang/Math" ∈ lw_g) (h4 : Cond.code Lib.Math.min.name Lib.Math.min.code 2 (some .int) ∈ lw_g) (hd : 1 ≤ d) (hc : c0 ≤ mc) (hs : s0 ≤ ms) (hst : (st.map fun v => v.category).sum ≤ 8) (kk : pm_X gs ro M d mc ms c0 s0 (pc + 3) L (.int (if y < x then y else x) :: st) n w Q) : pm_X gs ro M d mc ms c0 s0 pc L (.int y :: .int x :: st) n w Q := by
  intro p l e s m args below meth c H locs ls D cA ad ad0 n0 A F G LL SS
  have hts := F.2.2.2.2.2.2.2.1
  have hr := pm_lvroom (m := m) (pc := pc) (ls := ls) (ad := ad) (st0 := st.map (pm_v ad)) hst
  refine va_mmin F.1 F.2.1 (F.2.2.1.trans LL.1.symm) F.2.2.2.2.2.2.1 (pm_hts hts h1) (pm_hts hts h2) (pm_hts hts h3) (pm_hts hts h4) hd ?_ hc hs h (kk p l e s m args below meth c H locs ls D cA ad ad0 n0 A F G LL (pm_Si (pm_St (pm_St SS))))
  show _ ≤ 40 * d
  omega
end PMN
