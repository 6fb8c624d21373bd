/-! MAKING: sub-objects behind a region, arrays of arrays, arrays of references -/
def rg_sh (k : Nat) (x : rg_S) : rg_S := match x with
  | .inl (ci, t) => .inl (ci, t.map (fun c => if c < 2 then c else c + k))
  | x => x
/-- numbers of two regions that lie one behind the other; the first has k places -/
def rg_mer (k : Nat) (u v : rg_U) : rg_U := (fun i => if i < 100 * k then u.1 i else v.1 (i - 100 * k), fun j => if j < k then u.2.1 j else v.2.1 (j - k), fun i => if i < 100 * k then u.2.2.1 i else (v.2.2.1 (i - 100 * k)).map (fun o => o + k), fun j i => if j < k then u.2.2.2 j i else (v.2.2.2 (j - k) i).map (fun o => o + k))
theorem rg_cat {sh1 sh2 : List rg_S} {b m n : Nat} {u v : rg_U} {w : Nat → va_E} (h1 : rg sh1 b u m w) (h2 : rg sh2 (b + sh1.length) v n w) : rg (sh1 ++ sh2.map (rg_sh sh1.length)) b (rg_mer sh1.length u v) n w := by
  refine ⟨?_, ?_, fun j x hx => ?_⟩
  · unfold rg_wf
    rw [List.all_append, Bool.and_eq_true]
    refine ⟨h1.1, ?_⟩
    rw [List.all_map]
    have := h2.1
    unfold rg_wf at this
    rw [List.all_eq_true] at this ⊢
    intro y hy
    have := this y hy
    rcases y with ⟨ci, t⟩ | y
    · simpa [rg_sh] using this
    · rfl
  · rw [List.length_append, List.length_map]
    have := h2.2.1
    omega
  · by_cases hj : j < sh1.length
    · rw [List.getElem?_append_left hj] at hx
      rw [h1.2.2 j x hx]
      rcases x with ⟨ci, t⟩ | ⟨tag, N⟩ | ⟨tag, N⟩
      · have hl := rg_t h1.1 hx
        show Sum.inr (ci, rg_fs b u j t) = Sum.inr (ci, rg_fs b (rg_mer sh1.length u v) j t)
        congr 2
        apply List.map_congr_left
        intro i hi
        have hi := List.mem_range.mp hi
        have hlt : 100 * j + i < 100 * sh1.length := by omega
        cases t.getD i 0 with
        | zero =>
          show Value.int (u.1 _) = Value.int (if 100 * j + i < 100 * sh1.length then u.1 _ else _)
          rw [if_pos hlt]
        | succ k =>
          cases k with
          | zero =>
            show va_rf ((u.2.2.1 _).map _) = va_rf ((if 100 * j + i < 100 * sh1.length then u.2.2.1 _ else _ : Option Nat).map _)
            rw [if_pos hlt]
          | succ k => rfl
      · show Sum.inl (tag, N, Sum.inl (u.2.1 j)) = Sum.inl (tag, N, Sum.inl (if j < sh1.length then u.2.1 j else _))
        rw [if_pos hj]
      · show Sum.inl (tag, N, Sum.inr (Sum.inr (Sum.inr (Sum.inr (fun i => (u.2.2.2 j i).map _))))) = Sum.inl (tag, N, Sum.inr (Sum.inr (Sum.inr (Sum.inr (fun i => (if j < sh1.length then u.2.2.2 j i else _ : Option Nat).map _)))))
        simp only [if_pos hj]
    · rw [List.getElem?_append_right (by omega), List.getElem?_map] at hx
      cases hy : sh2[j - sh1.length]? with
      | none => rw [hy] at hx; cases hx
      | some y =>
        rw [hy] at hx
        cases hx
        have e0 := h2.2.2 _ y hy
        rw [show b + sh1.length + (j - sh1.length) = b + j by omega] at e0
        rw [e0]
        rcases y with ⟨ci, t⟩ | ⟨tag, N⟩ | ⟨tag, N⟩
        · have hl := rg_t h2.1 hy
          show Sum.inr (ci, rg_fs (b + sh1.length) v (j - sh1.length) t) = Sum.inr (ci, rg_fs b (rg_mer sh1.length u v) j (t.map _))
          congr 2
          apply List.ext_getElem?
          intro i
          by_cases hi : i < t.length
          · have ht : t[i]? = some t[i] := List.getElem?_eq_getElem hi
            rw [rg_fs_get ht, rg_fs_get (c := if t[i] < 2 then t[i] else t[i] + sh1.length) (by rw [List.getElem?_map, ht]; rfl)]
            have hlt : ¬ 100 * j + i < 100 * sh1.length := by omega
            have hsub : 100 * j + i - 100 * sh1.length = 100 * (j - sh1.length) + i := by omega
            generalize t[i] = c
            match c with
            | 0 =>
              show some (Value.int (v.1 _)) = some (Value.int (if 100 * j + i < 100 * sh1.length then _ else v.1 (100 * j + i - 100 * sh1.length)))
              rw [if_neg hlt, hsub]
            | 1 =>
              show some (va_rf ((v.2.2.1 _).map _)) = some (va_rf ((if 100 * j + i < 100 * sh1.length then _ else (v.2.2.1 (100 * j + i - 100 * sh1.length)).map _ : Option Nat).map _))
              rw [if_neg hlt, hsub]
              cases v.2.2.1 (100 * (j - sh1.length) + i) with
              | none => rfl
              | some o =>
                show some (Value.ref (b + sh1.length + o)) = some (Value.ref (b + (o + sh1.length)))
                rw [show b + sh1.length + o = b + (o + sh1.length) by omega]
            | c + 2 =>
              rw [if_neg (by omega)]
              show some (Value.ref (b + sh1.length + c)) = some (rg_f b _ j i (c + 2 + sh1.length))
              rw [show c + 2 + sh1.length = (c + sh1.length) + 2 by omega]
              show some (Value.ref (b + sh1.length + c)) = some (Value.ref (b + (c + sh1.length)))
              rw [show b + sh1.length + c = b + (c + sh1.length) by omega]
          · rw [List.getElem?_eq_none_iff.mpr (by rw [rg_fs_len]; omega), List.getElem?_eq_none_iff.mpr (by rw [rg_fs_len, List.length_map]; omega)]
        · show Sum.inl (tag, N, Sum.inl (v.2.1 (j - sh1.length))) = Sum.inl (tag, N, Sum.inl (if j < sh1.length then _ else v.2.1 (j - sh1.length)))
          rw [if_neg hj]
        · show Sum.inl (tag, N, Sum.inr (Sum.inr (Sum.inr (Sum.inr (fun i => (v.2.2.2 (j - sh1.length) i).map _))))) = Sum.inl (tag, N, Sum.inr (Sum.inr (Sum.inr (Sum.inr (fun i => (if j < sh1.length then _ else (v.2.2.2 (j - sh1.length) i).map _ : Option Nat).map _)))))
          simp only [if_neg hj]
          congr 7
          funext i
          cases v.2.2.2 (j - sh1.length) i with
          | none => rfl
          | some o =>
            show some (b + sh1.length + o) = some (b + (o + sh1.length))
            rw [show b + sh1.length + o = b + (o + sh1.length) by omega]
theorem mk_outer (c : ClassId) (N h0 : Nat) : ∀ i : Nat, Jvm.Free.Multi.outerC c N h0 i = arrV c N (fun j => va_rf (if j < i then some (h0 + 1 + j) else none))
  | 0 => by
    show ({ cls := c, slots := Array.replicate N .null, vm := .none } : Cell) = _
    rw [arrV_new]
    refine congrArg (arrV c N) (funext fun j => ?_)
    simp [va_rf]
  | i + 1 => by
    show (Jvm.Free.Multi.outerC c N h0 i).setSlot i (.ref (h0 + 1 + i)) = _
    rw [mk_outer c N h0 i, arrV_store]
    refine congrArg (arrV c N) (funext fun j => ?_)
    by_cases e : j = i
    · subst e
      simp [updV, va_rf]
    · by_cases h : j < i
      · simp [updV, e, h, Nat.lt_succ_of_lt h]
      · simp [updV, e, h, show ¬ j < i + 1 by omega]
/-- the world with an array of arrays behind it -/
def mk_w (w : Nat → va_E) (n N K : Nat) : Nat → va_E := fun k => if k < n then w k else if k = n then .inl (3, N, .inr (.inr (.inr (.inr (fun i => if i < N then some (n + 1 + i) else none))))) else .inl (0, K, .inl (fun _ => 0))
section MKM
variable {gs : List String} {ro roc : pm_RO} {M Mc : pm_M} {d dc mc ms c0 s0 mcc msc pc : Nat} {L : List (Option Value)} {st As : List Value} {n : Nat} {w : Nat → va_E} {Q Qc : Option Value → Nat → (Nat → va_E) → Prop} {sh sh' shL : List rg_S} {b : Nat} {u uL : rg_U}
theorem pm_mna {idx : Nat} {N K : Nat} {x y : Int32} (h : decode M.2.1 pc = .ok (.multianewarray idx 2, 4)) (h1 : Cond.classLink M.1.cls idx ("[" ++ (FieldType.array .int).toString) ∈ lw_g) (h2 : Cond.arrayOver (.array .int) ∈ lw_tbl) (h3 : Cond.arrayClass .int ∈ lw_g) (hx : ¬ x < 0) (hy : ¬ y < 0) (hN : x.toNatClampNeg = N) (hK : y.toNatClampNeg = K) (hb1 : N * 4 ≤ 536870912) (hb2 : K * 4 ≤ 536870912) (hc : c0 + (1 + N) ≤ mc) (hs : s0 + (N + N * K) ≤ ms) (hn : n + 1 + N < 1000000)
    (kk : pm_X gs ro M d mc ms (c0 + 1 + N) (s0 + N + N * K) (pc + 4) L (.ref n :: st) (n + 1 + N) (mk_w w n N K) Q) : pm_X gs ro M d mc ms c0 s0 pc L (.int y :: .int x :: st) n w Q := by
  subst hN
  subst hK
  intro p l e s m args below meth c H locs ls D cA ad ad0 n0 A F G LL SS
  have hts := F.2.2.2.2.2.2.2.1
  have hKK := F.2.2.2.2.2.2.2.2.1
  intro T hT X
  obtain ⟨vm₁, cB, comp, -, fA, fC, -, -, X', step⟩ := X.multianewarray2F F.1 F.2.2.2.2.2.2.1 (pm_hts hts h1) (F.2.2.2.2.2.2.2.2.2.2.2.2.2.2 h2) (pm_hts hts h3) (g := F0 m pc ls ((.int y :: .int x :: st).map (pm_v ad))) rfl (by rw [F.2.1]; exact h) rfl hx hy hb1 hb2 (by omega) rfl rfl hc hs
  have a3 : s.vm.findClass ("[" ++ (FieldType.array .int).toString) = some (cA 3) := (hKK.2 3 (cA 3, .array .int) rfl).2
  have a0 : s.vm.findClass ("[" ++ FieldType.int.toString) = some (cA 0) := (hKK.2 0 (cA 0, .int) rfl).2
  have e3 : cB = cA 3 := Option.some.inj (fA.symm.trans a3)
  have e0 : comp = cA 0 := Option.some.inj (fC.symm.trans a0)
  subst e3
  subst e0
  generalize hF : Jvm.Free.Multi.fill (T.setVm vm₁) (cA 3) (cA 0) x.toNatClampNeg y.toNatClampNeg (defaultValue .int) x.toNatClampNeg = FF at X' step
  have hTh : (T.setVm vm₁).heap = H := hT
  obtain ⟨f1, f2, -, -⟩ := Jvm.Free.Multi.fill_facts (T.setVm vm₁) (cA 3) (cA 0) x.toNatClampNeg y.toNatClampNeg (defaultValue .int) x.toNatClampNeg
  rw [hF, hTh] at f1 f2
  have hold : ∀ q : Nat, q < H.size → FF.heap[q]? = H[q]? := fun q hq => by
    have := Jvm.Free.Multi.fill_old (T.setVm vm₁) (cA 3) (cA 0) x.toNatClampNeg y.toNatClampNeg (defaultValue .int) (a := q) (by rw [hTh]; exact hq) x.toNatClampNeg
    rw [hF, hTh] at this
    exact this
  have hrow : ∀ j : Nat, j < x.toNatClampNeg → FF.heap[H.size + 1 + j]? = some (vp_cell (cA 0) (y.toNatClampNeg, .inl (fun _ => 0))) := fun j hj => by
    have := Jvm.Free.Multi.fill_inner (T.setVm vm₁) (cA 3) (cA 0) x.toNatClampNeg y.toNatClampNeg (defaultValue .int) x.toNatClampNeg j hj
    rw [hF, hTh] at this
    rw [this]
    congr 1
    show ({ cls := cA 0, slots := Array.replicate y.toNatClampNeg (.int 0), vm := .none } : Cell) = _
    rw [arrV_new]
    rfl
  have hout : Jvm.Free.Multi.outerC (cA 3) x.toNatClampNeg H.size x.toNatClampNeg = vp_cell (cA 3) (x.toNatClampNeg, .inr (.inr (.inr (.inr (fun i => if i < x.toNatClampNeg then some (H.size + 1 + i) else none))))) := by
    rw [vp_cell_q]
    exact mk_outer (cA 3) x.toNatClampNeg H.size x.toNatClampNeg
  rw [hout] at f2
  -- where the places lie now
  have had : ∀ k, k < n → ad k < H.size := fun k hk => (G.1 k (ad k, pm_e cA ad (w k)) (pm_W_get hk)).lt
  let ad' : Nat → Nat := fun k => if k < n then ad k else if k < n + 1 + x.toNatClampNeg then H.size + (k - n) else ad k
  have hag : pm_ag n ad ad' := fun k hk => by
    show (if k < n then ad k else if k < n + 1 + x.toNatClampNeg then H.size + (k - n) else ad k) = ad k
    rcases hk with q | q
    · rw [if_pos q]
    · rw [if_neg (by omega), if_neg (by omega)]
  have hadn : ∀ k, n ≤ k → k < n + 1 + x.toNatClampNeg → ad' k = H.size + (k - n) := fun k h1 h2 => by
    show (if k < n then ad k else if k < n + 1 + x.toNatClampNeg then H.size + (k - n) else ad k) = _
    rw [if_neg (by omega), if_pos h2]
  have hwk' : pm_wk (n + 1 + x.toNatClampNeg) (mk_w w n x.toNatClampNeg y.toNatClampNeg) := fun k hk => by
    unfold mk_w
    by_cases q : k < n
    · rw [if_pos q]; exact pm_ekm (by omega) (G.2.2.2.2.2.2 k q)
    · rw [if_neg q]
      by_cases q2 : k = n
      · rw [if_pos q2]
        exact pm_ekq (fun i k' hq => by
          by_cases hi : i < x.toNatClampNeg
          · rw [if_pos hi] at hq; cases hq; omega
          · rw [if_neg hi] at hq; cases hq)
      · rw [if_neg q2]; exact pm_eki
  have hP' : va_P D vwCl (pm_W cA ad' (n + 1 + x.toNatClampNeg) (mk_w w n x.toNatClampNeg y.toNatClampNeg)) FF.heap := fun k q hq => by
    obtain ⟨hk, rfl⟩ := pm_W_inv hq
    by_cases q : k < n
    · have e1 : mk_w w n x.toNatClampNeg y.toNatClampNeg k = w k := if_pos q
      rw [e1, pm_e_ag hag (G.2.2.2.2.2.2 k q), hag k (Or.inl q)]
      have hh : va_P D vwCl (pm_W cA ad n w) FF.heap := va_P.kept G.1 (fun k9 z hz => hold z.1 ((G.1 k9 z hz).lt))
      exact hh k _ (pm_W_get q)
    · rw [hadn k (by omega) hk]
      by_cases q2 : k = n
      · subst q2
        have e1 : mk_w w k x.toNatClampNeg y.toNatClampNeg k = .inl (3, x.toNatClampNeg, .inr (.inr (.inr (.inr (fun i => if i < x.toNatClampNeg then some (k + 1 + i) else none))))) := by
          unfold mk_w; rw [if_neg (Nat.lt_irrefl k), if_pos rfl]
        rw [e1, Nat.sub_self, Nat.add_zero]
        show FF.heap[H.size]? = some (vp_cell (cA 3) (x.toNatClampNeg, .inr (.inr (.inr (.inr (fun i => (if i < x.toNatClampNeg then some (k + 1 + i) else none).map ad'))))))
        rw [f2]
        congr 7
        funext i
        by_cases hi : i < x.toNatClampNeg
        · rw [if_pos hi, if_pos hi]
          show some (H.size + 1 + i) = some (ad' (k + 1 + i))
          rw [hadn (k + 1 + i) (by omega) (by omega)]
          congr 1
          omega
        · rw [if_neg hi, if_neg hi]; rfl
      · have e1 : mk_w w n x.toNatClampNeg y.toNatClampNeg k = .inl (0, y.toNatClampNeg, .inl (fun _ => 0)) := by
          unfold mk_w; rw [if_neg q, if_neg q2]
        rw [e1]
        show FF.heap[H.size + (k - n)]? = some (vp_cell (cA 0) (y.toNatClampNeg, .inl (fun _ => 0)))
        have := hrow (k - n - 1) (by omega)
        rwa [show H.size + 1 + (k - n - 1) = H.size + (k - n) by omega] at this
  have hS' : va_S A s.heap FF.heap locs := ⟨Nat.le_trans G.2.2.1.1 (by rw [f1]; omega), fun q h1 h2 => by
    rw [hold q (Nat.lt_of_lt_of_le h1 G.2.2.1.1)]; exact G.2.2.1.2.1 q h1 h2, G.2.2.1.2.2⟩
  have hD' : va_D A (pm_W cA ad' (n + 1 + x.toNatClampNeg) (mk_w w n x.toNatClampNeg y.toNatClampNeg)) := by
    refine ⟨fun i j p q hi hj hpq => ?_, fun k q hq => ?_⟩
    · obtain ⟨hi1, rfl⟩ := pm_W_inv hi
      obtain ⟨hj1, rfl⟩ := pm_W_inv hj
      have hpq : ad' i = ad' j := hpq
      by_cases q1 : i < n <;> by_cases q2 : j < n
      · rw [hag i (Or.inl q1), hag j (Or.inl q2)] at hpq
        exact G.2.1.1 i j _ _ (pm_W_get q1) (pm_W_get q2) hpq
      · rw [hag i (Or.inl q1), hadn j (by omega) hj1] at hpq
        have := had i q1
        omega
      · rw [hag j (Or.inl q2), hadn i (by omega) hi1] at hpq
        have := had j q2
        omega
      · rw [hadn i (by omega) hi1, hadn j (by omega) hj1] at hpq
        omega
    · obtain ⟨hk, rfl⟩ := pm_W_inv hq
      show A (ad' k)
      by_cases q1 : k < n
      · rw [hag k (Or.inl q1)]; exact G.2.1.2 k _ (pm_W_get q1)
      · rw [hadn k (by omega) hk]
        exact F.2.2.2.2.2.2.2.2.2.1 _ (Nat.le_trans G.2.2.1.1 (by omega))
  have K := kk p l e s m args below meth c FF.heap locs ls D cA ad' ad0 n0 A F ⟨hP', hD', hS', Nat.le_trans G.2.2.2.1 (by omega), hn, pm_ag_tr G.2.2.2.1 G.2.2.2.2.2.1 hag, hwk'⟩ (pm_L_ag LL (by omega) hag) (pm_Sc (pm_okr (by omega)) (fun v hv => pm_okm (by omega) (pm_St (pm_St SS) v hv)))
  have e1 : (Value.ref n :: st).map (pm_v ad') = .ref T.heap.size :: st.map (pm_v ad) := by
    show Value.ref (ad' n) :: st.map (pm_v ad') = _
    rw [hadn n (Nat.le_refl _) (by omega), pm_vs_ag hag (pm_St (pm_St SS)), Nat.sub_self, Nat.add_zero, hT]
  rw [e1] at K
  obtain ⟨t, b1, b2⟩ := K FF rfl X'
  exact ⟨t, step t b1, b2⟩
end MKM
