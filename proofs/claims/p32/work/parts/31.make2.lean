/-! MAKING, rows over a region that grows -/
def sQ (u : rg_U) (j i : Nat) (r : Option Nat) : rg_U := (u.1, u.2.1, u.2.2.1, va_up u.2.2.2 j (va_up (u.2.2.2 j) i r))
/-- an array of arrays, as it lies -/
def mk_u (N : Nat) : rg_U := (fun _ => 0, fun _ _ => 0, fun _ => none, fun _ i => if i < N then some (1 + i) else none)
theorem mk_rg {w : Nat → va_E} {n N K : Nat} : rg (.inr (.inr (3, N)) :: List.replicate N (.inr (.inl (0, K)))) n (mk_u N) (n + 1 + N) (mk_w w n N K) := by
  refine ⟨?_, by simp; omega, fun j x hx => ?_⟩
  · unfold rg_wf
    rw [List.all_eq_true]
    intro y hy
    rcases List.mem_cons.mp hy with q | q
    · rw [q]
    · rw [(List.mem_replicate.mp q).2]
  · cases j with
    | zero =>
      cases hx
      unfold mk_w
      rw [if_neg (by omega), if_pos (Nat.add_zero n)]
      show Sum.inl (3, N, Sum.inr (Sum.inr (Sum.inr (Sum.inr (fun i => if i < N then some (n + 1 + i) else none))))) = Sum.inl (3, N, Sum.inr (Sum.inr (Sum.inr (Sum.inr (fun i => (if i < N then some (1 + i) else none : Option Nat).map (fun k => n + k))))))
      congr 7
      funext i
      by_cases hi : i < N
      · rw [if_pos hi, if_pos hi]
        show some (n + 1 + i) = some (n + (1 + i))
        rw [Nat.add_assoc]
      · rw [if_neg hi, if_neg hi]; rfl
    | succ j =>
      rw [List.getElem?_cons_succ] at hx
      have hm := List.mem_of_getElem? hx
      have hj := (List.getElem?_eq_some_iff.mp hx).1
      rw [List.length_replicate] at hj
      rw [(List.mem_replicate.mp hm).2]
      unfold mk_w
      rw [if_neg (by omega), if_neg (by omega)]
      rfl
section MK2
variable {gs : List String} {ro roc : pm_RO} {M Mc : pm_M} {d dc mc ms c0 s0 mcc msc pc : Nat} {L : List (Option Value)} {st As : List Value} {n : Nat} {w : Nat → va_E} {Q Qc : Option Value → Nat → (Nat → va_E) → Prop} {sh sh' shL : List rg_S} {b : Nat} {u uL : rg_U}
theorem mk_one {ci : Nat} {fs : List Value} {t0 : List Nat} (hfs3 : (Sum.inr (ci, fs) : va_E) = rg_e n rg_Z 0 (.inl (ci, t0))) (ht0 : rg_wf [.inl (ci, t0)] = true) : rg [.inl (ci, t0)] n rg_Z (n + 1) (va_up w n (.inr (ci, fs))) := by
  refine ⟨ht0, Nat.le_refl _, fun j x hx => ?_⟩
  have hj : j < 1 := (List.getElem?_eq_some_iff.mp hx).1
  have hj : j = 0 := by omega
  subst hj
  cases hx
  rw [Nat.add_zero, pm_up_s]
  exact hfs3
theorem mk_join {len size : Nat} {w1 w' : Nat → va_E} (hR : rg sh b u (b + len) w) (hlen : sh.length = len) (h0 : ∀ k, k < b + len → w1 k = w k) (hRL : rg shL (b + len) uL (b + len + size) w') (hlow : ∀ k, k < b + len → w' k = w1 k) : rg (sh ++ shL.map (rg_sh len)) b (rg_mer len u uL) (b + len + size) w' := by
  subst hlen
  exact rg_cat (rg_keep hR (Nat.le_refl _) (fun j hj => by rw [hlow (b + j) (by omega), h0 (b + j) (by omega)])) hRL
theorem rg_mkI {idx idx2 ci N len size : Nat} {C : String} {T : u_T} {ty : Nat → FieldType} {fs : List Value} {t0 : List Nat} (hR : rg sh b u n w) (hd1 : decode M.2.1 pc = .ok (.new idx, 3)) (hd2 : decode M.2.1 (pc + 3) = .ok (.dup, 1)) (hd3 : decode M.2.1 (pc + 3 + 1) = .ok (.invokespecial idx2, 3)) (hcl : pm_cl ci C T N ty) (h1 : Cond.classLink M.1.cls idx C ∈ lw_g) (h2 : Cond.instantiable C N ∈ lw_g) (h3 : Cond.initialized C ∈ lw_g) (hfs : ∀ j, j < N → defaultValue (ty j) = vp_V fs j) (hfs2 : fs.all (fun v => match v with | .ref _ => false | _ => true) = true) (hl : pm_lI M.1.cls idx2 Mc 0) (hdd : dc + 1 ≤ d) (hc : c0 + 1 + mcc ≤ mc) (hs : s0 + N + msc ≤ ms) (hst : ((Value.ref n :: st).map fun v => v.category).sum ≤ 8) (hlen : sh.length = len) (hn0 : b + len = n) (hn : n + 1 < 1000000) (hfs3 : (Sum.inr (ci, fs) : va_E) = rg_e n rg_Z 0 (.inl (ci, t0))) (ht0 : rg_wf [.inl (ci, t0)] = true)
    (hM : ∀ w1, rg [.inl (ci, t0)] n rg_Z (n + 1) w1 → pm_Met gs ro Mc dc mcc msc [.ref (n + 0)] (n + 1) w1 (fun rr n1 w2 => rr = none ∧ n1 = n + size ∧ rg shL n uL (n + size) w2 ∧ ∀ k, k < n → w2 k = w1 k)) (hsh : sh ++ shL.map (rg_sh len) = sh')
    (kk : ∀ w', rg sh' b (rg_mer len u uL) (b + len + size) w' → (∀ k, k < b → w' k = w k) → pm_X gs ro M d mc ms (c0 + 1 + mcc) (s0 + N + msc) (pc + 3 + 1 + 3) L (.ref (b + len) :: st) (b + len + size) w' Q) : pm_X gs ro M d mc ms c0 s0 pc L st n w Q := by
  subst hn0
  subst hsh
  refine pm_new hd1 hcl h1 h2 h3 hfs hfs2 (by omega) (by omega) hn ?_
  refine pm_dup hd2 rfl ?_
  refine pm_callI (As := []) (st := .ref (b + len) :: st) hd3 hl (Nat.lt_succ_self _) (fun _ _ q => q) hdd hc hs hst rfl (hM _ (mk_one hfs3 ht0)) (fun r n' w' hq _ => ?_)
  obtain ⟨rfl, rfl, hRL, hlow⟩ := hq
  have h0 : ∀ k, k < b + len → (va_up w (b + len) (.inr (ci, fs))) k = w k := fun k hk => pm_up_n (by omega)
  exact kk w' (mk_join hR hlen h0 hRL hlow) (fun k hk => by rw [hlow k (by omega), h0 k (by omega)])
theorem rg_mkIN {idx idx2 ci N len size : Nat} {host : String} {C : String} {T : u_T} {ty : Nat → FieldType} {fs : List Value} {t0 : List Nat} (hR : rg sh b u n w) (hd1 : decode M.2.1 pc = .ok (.new idx, 3)) (hd2 : decode M.2.1 (pc + 3) = .ok (.dup, 1)) (hd3 : decode M.2.1 (pc + 3 + 1) = .ok (.invokespecial idx2, 3)) (hcl : pm_cl ci C T N ty) (h1 : Cond.classLink M.1.cls idx C ∈ lw_g) (h2 : Cond.instantiable C N ∈ lw_g) (h3 : Cond.initialized C ∈ lw_g) (hfs : ∀ j, j < N → defaultValue (ty j) = vp_V fs j) (hfs2 : fs.all (fun v => match v with | .ref _ => false | _ => true) = true) (hl : pm_nI M.1.cls idx2 Mc host 0) (hdd : dc + 1 ≤ d) (hc : c0 + 1 + mcc ≤ mc) (hs : s0 + N + msc ≤ ms) (hst : ((Value.ref n :: st).map fun v => v.category).sum ≤ 8) (hlen : sh.length = len) (hn0 : b + len = n) (hn : n + 1 < 1000000) (hfs3 : (Sum.inr (ci, fs) : va_E) = rg_e n rg_Z 0 (.inl (ci, t0))) (ht0 : rg_wf [.inl (ci, t0)] = true)
    (hM : ∀ w1, rg [.inl (ci, t0)] n rg_Z (n + 1) w1 → pm_Met gs ro Mc dc mcc msc [.ref (n + 0)] (n + 1) w1 (fun rr n1 w2 => rr = none ∧ n1 = n + size ∧ rg shL n uL (n + size) w2 ∧ ∀ k, k < n → w2 k = w1 k)) (hsh : sh ++ shL.map (rg_sh len) = sh')
    (kk : ∀ w', rg sh' b (rg_mer len u uL) (b + len + size) w' → (∀ k, k < b → w' k = w k) → pm_X gs ro M d mc ms (c0 + 1 + mcc) (s0 + N + msc) (pc + 3 + 1 + 3) L (.ref (b + len) :: st) (b + len + size) w' Q) : pm_X gs ro M d mc ms c0 s0 pc L st n w Q := by
  subst hn0
  subst hsh
  refine pm_new hd1 hcl h1 h2 h3 hfs hfs2 (by omega) (by omega) hn ?_
  refine pm_dup hd2 rfl ?_
  refine pm_callIN (As := []) (st := .ref (b + len) :: st) hd3 hl (Nat.lt_succ_self _) (fun _ _ q => q) hdd hc hs hst rfl (hM _ (mk_one hfs3 ht0)) (fun r n' w' hq _ => ?_)
  obtain ⟨rfl, rfl, hRL, hlow⟩ := hq
  have h0 : ∀ k, k < b + len → (va_up w (b + len) (.inr (ci, fs))) k = w k := fun k hk => pm_up_n (by omega)
  exact kk w' (mk_join hR hlen h0 hRL hlow) (fun k hk => by rw [hlow k (by omega), h0 k (by omega)])
/-- new int[N][K] -/
theorem rg_mna {idx N K len : Nat} {x y : Int32} (hR : rg sh b u n w) (h : decode M.2.1 pc = .ok (.multianewarray idx 2, 4)) (h1 : Cond.classLink M.1.cls idx ("[" ++ (FieldType.array .int).toString) ∈ lw_g) (h2 : Cond.arrayOver (.array .int) ∈ lw_tbl) (h3 : Cond.arrayClass .int ∈ lw_g) (hx : ¬ x < 0) (hy : ¬ y < 0) (hN : x.toNatClampNeg = N) (hK : y.toNatClampNeg = K) (hb1 : N * 4 ≤ 536870912) (hb2 : K * 4 ≤ 536870912) (hc : c0 + (1 + N) ≤ mc) (hs : s0 + (N + N * K) ≤ ms) (hlen : sh.length = len) (hn0 : b + len = n) (hn : n + 1 + N < 1000000) (hsh : sh ++ ((.inr (.inr (3, N)) :: List.replicate N (.inr (.inl (0, K)))) : List rg_S).map (rg_sh len) = sh')
    (kk : ∀ w', rg sh' b (rg_mer len u (mk_u N)) (b + len + (1 + N)) w' → (∀ k, k < b → w' k = w k) → pm_X gs ro M d mc ms (c0 + 1 + N) (s0 + N + N * K) (pc + 4) L (.ref (b + len) :: st) (b + len + (1 + N)) w' Q) : pm_X gs ro M d mc ms c0 s0 pc L (.int y :: .int x :: st) n w Q := by
  subst hn0
  subst hsh
  refine pm_mna h h1 h2 h3 hx hy hN hK hb1 hb2 hc hs hn ?_
  have e1 : ∀ k, k < b + len → mk_w w (b + len) N K k = w k := fun k hk => if_pos hk
  have := kk (mk_w w (b + len) N K) (mk_join hR hlen (fun k hk => rfl) (by rw [← Nat.add_assoc]; exact mk_rg) e1) (fun k hk => e1 k (by omega))
  rw [← Nat.add_assoc] at this
  exact this
theorem rg_appQ {tag N : Nat} (h : rg sh b u n w) (hn : b + sh.length = n) (hu : u.2.2.2 sh.length = fun _ => none) : rg (sh ++ [.inr (.inr (tag, N))]) b u (n + 1) (va_up w n (.inl (tag, N, .inr (.inr (.inr (.inr (fun _ => none))))))) := by
  refine ⟨?_, by rw [List.length_append]; simp; omega, fun j x hx => ?_⟩
  · unfold rg_wf
    rw [List.all_append, Bool.and_eq_true]
    exact ⟨h.1, rfl⟩
  · by_cases hj : j < sh.length
    · rw [List.getElem?_append_left hj] at hx
      rw [pm_up_n (by omega)]
      exact h.2.2 j x hx
    · rw [List.getElem?_append_right (by omega)] at hx
      have hz : j - sh.length < 1 := (List.getElem?_eq_some_iff.mp hx).1
      have hj2 : j = sh.length := by omega
      subst hj2
      rw [Nat.sub_self] at hx
      cases hx
      rw [hn, pm_up_s]
      show _ = Sum.inl (tag, N, Sum.inr (Sum.inr (Sum.inr (Sum.inr (fun i => (u.2.2.2 sh.length i).map (fun k => b + k))))))
      rw [hu]
      rfl
/-- new Run[N] -/
theorem rg_newq {idx : Nat} {k : Int32} {N len : Nat} (hR : rg sh b u n w) (h : decode M.2.1 pc = .ok (.anewarray idx, 3)) (h1 : Cond.classLink M.1.cls idx RX7 ∈ lw_g) (h2 : Cond.arrayOver (.object RX7) ∈ lw_tbl) (hk : ¬ k < 0) (hN : k.toNatClampNeg = N) (hb : N * 4 ≤ 536870912) (hc : c0 + 1 ≤ mc) (hs : s0 + N ≤ ms) (hlen : sh.length = len) (hn0 : b + len = n) (hn : n + 1 < 1000000) (hu : u.2.2.2 len = fun _ => none) (hsh : sh ++ [.inr (.inr (2, N))] = sh')
    (kk : ∀ w', rg sh' b u (b + len + 1) w' → (∀ k, k < b → w' k = w k) → pm_X gs ro M d mc ms (c0 + 1) (s0 + N) (pc + 3) L (.ref (b + len) :: st) (b + len + 1) w' Q) : pm_X gs ro M d mc ms c0 s0 pc L (.int k :: st) n w Q := by
  subst hlen
  subst hn0
  subst hsh
  exact pm_newq h h1 h2 hk hN hb hc hs hn (kk _ (rg_appQ hR rfl hu) (fun k hk => pm_up_n (by omega)))
theorem pm_astq {a v N ci : Nat} {g : Nat → Option Nat} {fs : List Value} {i : Int32} (h : decode M.2.1 pc = .ok (.aastore, 1)) (ha : a < n) (hw : w a = .inl (2, N, .inr (.inr (.inr (.inr g))))) (hv : v < n) (hwv : w v = .inr (ci, fs)) (hcl : ∃ T k, vwCl[ci]? = some (RX7, T, k)) (hi : vp_in i N) (kk : pm_X gs ro M d mc ms c0 s0 (pc + 1) L st n (va_up w a (.inl (2, N, .inr (.inr (.inr (.inr (va_up g i.toNatClampNeg (some v)))))))) Q) : pm_X gs ro M d mc ms c0 s0 pc L (.ref v :: .int i :: .ref a :: st) n w Q := by
  intro p l e s m args below meth c H locs ls D cA ad ad0 n0 A F G LL SS
  obtain ⟨T, k, hcl⟩ := hcl
  refine va_astq (D := D) F.1 F.2.1 F.2.2.2.2.2.2.2.2.1 G.1 G.2.1 G.2.2.1 a 2 v ci (cA := cA 2) (r := (RX7, T, k)) (n := N) (vs := fs.map (pm_v ad)) (f := fun i => (g i).map ad) ?_ rfl ?_ hcl hi h (fun H1 locs1 hP hD hS => ?_)
  · rw [pm_W_get ha, hw]; rfl
  · rw [pm_W_get hv, hwv]; rfl
  · have e1 := pm_W_set (cA := cA) (ad := ad) (n := n) (k := a) (w := w) (.inl (2, N, .inr (.inr (.inr (.inr (va_up g i.toNatClampNeg (some v)))))))
    have e2 : pm_e cA ad (.inl (2, N, .inr (.inr (.inr (.inr (va_up g i.toNatClampNeg (some v))))))) = .inl (cA 2, N, .inr (.inr (.inr (.inr (va_up (fun i => (g i).map ad) i.toNatClampNeg (some (ad v))))))) := by
      show Sum.inl (cA 2, N, Sum.inr (Sum.inr (Sum.inr (Sum.inr (fun j => (va_up g i.toNatClampNeg (some v) j).map ad))))) = _
      congr 7
      funext j
      unfold va_up
      by_cases hj : j = i.toNatClampNeg
      · rw [if_pos hj, if_pos hj]; rfl
      · rw [if_neg hj, if_neg hj]
    rw [e2] at e1
    have hP : va_P D vwCl (pm_W cA ad n (va_up w a (.inl (2, N, .inr (.inr (.inr (.inr (va_up g i.toNatClampNeg (some v))))))))) H1 := e1 ▸ hP
    have hD : va_D A (pm_W cA ad n (va_up w a (.inl (2, N, .inr (.inr (.inr (.inr (va_up g i.toNatClampNeg (some v))))))))) := e1 ▸ hD
    have hek : pm_ek n (.inl (2, N, .inr (.inr (.inr (.inr (va_up g i.toNatClampNeg (some v))))))) := pm_ekq (fun j k' hq => by
      unfold va_up at hq
      by_cases hj : j = i.toNatClampNeg
      · rw [if_pos hj] at hq; cases hq; exact hv
      · rw [if_neg hj] at hq; exact (G.2.2.2.2.2.2 a ha).1 2 N g hw j k' hq)
    exact kk p l e s m args below meth c H1 locs1 ls D cA ad ad0 n0 A F ⟨hP, hD, hS, G.2.2.2.1, G.2.2.2.2.1, G.2.2.2.2.2.1, pm_wku G.2.2.2.2.2.2 hek⟩ LL (pm_St (pm_St (pm_St SS)))
/-- an element of an array of Runs is set -/
theorem rg_qs {j o N ci : Nat} {t : List Nat} {i : Int32} (hR : rg sh b u n w) (h : decode M.2.1 pc = .ok (.aastore, 1)) (hx : sh[j]? = some (.inr (.inr (2, N)))) (hxo : sh[o]? = some (.inl (ci, t))) (hcl : ∃ T k, vwCl[ci]? = some (RX7, T, k)) (hi : vp_in i N) (kk : ∀ w', rg sh b (sQ u j i.toNatClampNeg (some o)) n w' → (∀ k, k < b → w' k = w k) → pm_X gs ro M d mc ms c0 s0 (pc + 1) L st n w' Q) : pm_X gs ro M d mc ms c0 s0 pc L (.ref (b + o) :: .int i :: .ref (b + j) :: st) n w Q := by
  refine pm_astq h (rg_lt hR hx) (hR.2.2 j _ hx) (rg_lt hR hxo) (hR.2.2 o _ hxo) hcl hi (kk _ ⟨hR.1, hR.2.1, fun j' x hx' => ?_⟩ (fun k hk => pm_up_n (by omega)))
  by_cases hj : j' = j
  · subst hj
    rw [pm_up_s]
    rw [hx] at hx'
    cases hx'
    show Sum.inl (2, N, Sum.inr (Sum.inr (Sum.inr (Sum.inr (va_up (fun i => (u.2.2.2 j' i).map _) i.toNatClampNeg (some (b + o))))))) = Sum.inl (2, N, Sum.inr (Sum.inr (Sum.inr (Sum.inr (fun q => (va_up u.2.2.2 j' (va_up (u.2.2.2 j') i.toNatClampNeg (some o)) j' q).map (fun k => b + k))))))
    rw [pm_up_s]
    congr 7
    funext q
    unfold va_up
    by_cases hq : q = i.toNatClampNeg
    · rw [if_pos hq, if_pos hq]; rfl
    · rw [if_neg hq, if_neg hq]
  · rw [pm_up_n (by omega), hR.2.2 j' x hx']
    rcases x with ⟨ci, t⟩ | ⟨tag, N⟩ | ⟨tag, N⟩
    · rfl
    · rfl
    · show _ = Sum.inl (tag, N, Sum.inr (Sum.inr (Sum.inr (Sum.inr (fun q => (va_up u.2.2.2 j (va_up (u.2.2.2 j) i.toNatClampNeg (some o)) j' q).map (fun k => b + k))))))
      rw [pm_up_n hj]
      rfl
/-- null comes into a field that may change and is null -/
theorem rg_pn {idx ci k j : Nat} {C : String} {t : List Nat} (hR : rg sh b u n w) (h : decode M.2.1 pc = .ok (.putfield idx, 3)) (hf : pm_fl M.1.cls idx ci k (.object C) false) (hx : sh[j]? = some (.inl (ci, t))) (ht : t[k]? = some 1) (hu : u.2.2.1 (100 * j + k) = none) (kk : ∀ w', rg sh b u n w' → (∀ k, k < b → w' k = w k) → pm_X gs ro M d mc ms c0 s0 (pc + 3) L st n w' Q) : pm_X gs ro M d mc ms c0 s0 pc L (.null :: .ref (b + j) :: st) n w Q := by
  refine pm_put h hf (rg_lt hR hx) (hR.2.2 j _ hx) (by rw [rg_fs_len]; exact (List.getElem?_eq_some_iff.mp ht).1) (fun _ => rfl) (fun _ => rfl) (kk _ ⟨hR.1, hR.2.1, fun j' x hx' => ?_⟩ (fun k hk => pm_up_n (by omega)))
  by_cases hj : j' = j
  · subst hj
    rw [pm_up_s]
    rw [hx] at hx'
    cases hx'
    show Sum.inr (ci, (rg_fs b u j' t).set k .null) = Sum.inr (ci, rg_fs b u j' t)
    congr 2
    apply List.ext_getElem?
    intro i
    rw [List.getElem?_set, rg_fs_len]
    by_cases hi : k = i
    · subst hi
      rw [if_pos rfl, if_pos (List.getElem?_eq_some_iff.mp ht).1, rg_fs_get ht]
      show some Value.null = some (va_rf ((u.2.2.1 (100 * j' + k)).map _))
      rw [hu]; rfl
    · rw [if_neg hi]
  · rw [pm_up_n (by omega)]
    exact hR.2.2 j' x hx'
end MK2
