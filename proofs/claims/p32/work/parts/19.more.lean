section PMW
variable {gs : List String} {ro : pm_RO} {M : pm_M} {d mc ms c0 s0 pc : Nat} {L : List (Option Value)} {st : List Value} {n : Nat} {w : Nat → va_E} {Q : Option Value → Nat → (Nat → va_E) → Prop}
theorem pm_ldcw {k : Nat} {v : Int32} (h : decode M.2.1 pc = .ok (.ldc_w k, 3)) (hm : Cond.constant M.1.cls k v ∈ lw_g) (kk : pm_X gs ro M d mc ms c0 s0 (pc + 3) L (.int v :: st) n w Q) : pm_X gs ro M d mc ms c0 s0 pc L st n w Q := by
  intro p l e s m args below meth c H locs ls D cA ad ad0 n0 A F G LL SS
  exact lv_ldcw F.1 F.2.1 F.2.2.2.2.2.2.1 (F.2.2.2.2.2.2.2.1 _ hm) h (kk p l e s m args below meth c H locs ls D cA ad ad0 n0 A F G LL (pm_Si SS))
end PMW
/-- what a fresh method leaves, where only its answer matters: nothing but the region has changed -/
def pm_a (b m n : Nat) (w : Nat → va_E) (r : Option Value) : Option Value → Nat → (Nat → va_E) → Prop := fun rr n1 w1 => rr = r ∧ n1 = n ∧ rg_k b m w w1
/-! making a region: arrays come behind it, and are put into its object's fields -/
def rg_Z : rg_U := (fun _ => 0, fun _ _ => 0, fun _ => none, fun _ _ => none)
theorem rg_app {sh : List rg_S} {b : Nat} {u : rg_U} {n tag N : Nat} {w : Nat → va_E} (h : rg sh b u n w) (hn : b + sh.length = n) (hu : u.2.1 sh.length = fun _ => 0) : rg (sh ++ [.inr (.inl (tag, N))]) b u (n + 1) (va_up w n (.inl (tag, N, .inl (fun _ => 0)))) := by
  refine ⟨?_, by rw [List.length_append]; simp; omega, fun j x hx => ?_⟩
  · unfold rg_wf
    rw [List.all_append, Bool.and_eq_true]
    exact ⟨h.1, rfl⟩
  · by_cases hj : j < sh.length
    · rw [List.getElem?_append_left hj] at hx
      rw [pm_up_n (by omega)]
      exact h.2.2 j x hx
    · rw [List.getElem?_append_right (by omega)] at hx
      have hz : j - sh.length < 1 := (List.getElem?_eq_some_iff.mp hx).1
      have hj2 : j = sh.length := by omega
      subst hj2
      rw [Nat.sub_self] at hx
      cases hx
      rw [hn, pm_up_s]
      show _ = Sum.inl (tag, N, Sum.inl (u.2.1 sh.length))
      rw [hu]
theorem rg_fs_putr {b : Nat} {u : rg_U} {j s o : Nat} {t : List Nat} (hs : s < t.length) : (rg_fs b u j t).set s (.ref (b + o)) = rg_fs b u j (t.set s (o + 2)) := by
  apply List.ext_getElem?
  intro i
  rw [List.getElem?_set, rg_fs_len]
  by_cases hi : s = i
  · subst hi
    rw [if_pos rfl, if_pos hs, rg_fs_get (List.getElem?_set_self hs)]
    rfl
  · rw [if_neg hi]
    by_cases hi2 : i < t.length
    · rw [rg_fs_get (List.getElem?_eq_getElem hi2), rg_fs_get (c := t[i]) (by rw [List.getElem?_set_ne hi]; exact List.getElem?_eq_getElem hi2)]
    · rw [List.getElem?_eq_none_iff.mpr (by rw [rg_fs_len]; omega), List.getElem?_eq_none_iff.mpr (by rw [rg_fs_len, List.length_set]; omega)]
theorem rg_putr {sh : List rg_S} {b : Nat} {u : rg_U} {n : Nat} {w : Nat → va_E} {j ci s o : Nat} {t : List Nat} (h : rg sh b u n w) (hx : sh[j]? = some (.inl (ci, t))) (hs : s < t.length) : rg (sh.set j (.inl (ci, t.set s (o + 2)))) b u n (va_up w (b + j) (.inr (ci, (rg_fs b u j t).set s (.ref (b + o))))) := by
  have hj := (List.getElem?_eq_some_iff.mp hx).1
  have hl := rg_t h.1 hx
  refine ⟨?_, by rw [List.length_set]; exact h.2.1, fun j' x hx' => ?_⟩
  · unfold rg_wf
    rw [List.all_eq_true]
    intro y hy
    rcases List.mem_or_eq_of_mem_set hy with q | q
    · exact List.all_eq_true.mp h.1 y q
    · subst q
      simpa using hl
  · by_cases hjj : j' = j
    · subst hjj
      rw [List.getElem?_set_self hj] at hx'
      cases hx'
      rw [pm_up_s, rg_fs_putr hs]
      rfl
    · rw [List.getElem?_set_ne (fun q => hjj q.symm)] at hx'
      rw [pm_up_n (by omega)]
      exact h.2.2 j' x hx'
section RGN
variable {gs : List String} {ro : pm_RO} {M : pm_M} {d mc ms c0 s0 pc : Nat} {L : List (Option Value)} {st : List Value} {n : Nat} {w : Nat → va_E} {Q : Option Value → Nat → (Nat → va_E) → Prop} {sh sh' : List rg_S} {b : Nat} {u : rg_U}
theorem rg_newi {k : Int32} {N len : Nat} (hR : rg sh b u n w) (h : decode M.2.1 pc = .ok (.newarray .int, 2)) (h1 : Cond.arrayClass .int ∈ lw_g) (hk : ¬ k < 0) (hN : k.toNatClampNeg = N) (hb : N * 4 ≤ 536870912) (hc : c0 + 1 ≤ mc) (hs : s0 + N ≤ ms) (hlen : sh.length = len) (hn0 : b + len = n) (hn : n + 1 < 1000000) (hu : u.2.1 len = fun _ => 0) (hsh : sh ++ [.inr (.inl (0, N))] = sh')
    (kk : ∀ w', rg sh' b u (b + len + 1) w' → (∀ k, k < b → w' k = w k) → pm_X gs ro M d mc ms (c0 + 1) (s0 + N) (pc + 2) L (.ref (b + len) :: st) (b + len + 1) w' Q) : pm_X gs ro M d mc ms c0 s0 pc L (.int k :: st) n w Q := by
  subst hlen
  subst hn0
  subst hsh
  exact pm_newi h h1 hk hN hb hc hs hn (kk _ (rg_app hR rfl hu) (fun k hk => pm_up_n (by omega)))
theorem rg_newz {k : Int32} {N len : Nat} (hR : rg sh b u n w) (h : decode M.2.1 pc = .ok (.newarray .boolean, 2)) (h1 : Cond.arrayClass .boolean ∈ lw_g) (hk : ¬ k < 0) (hN : k.toNatClampNeg = N) (hb : N * 1 ≤ 536870912) (hc : c0 + 1 ≤ mc) (hs : s0 + N ≤ ms) (hlen : sh.length = len) (hn0 : b + len = n) (hn : n + 1 < 1000000) (hu : u.2.1 len = fun _ => 0) (hsh : sh ++ [.inr (.inl (1, N))] = sh')
    (kk : ∀ w', rg sh' b u (b + len + 1) w' → (∀ k, k < b → w' k = w k) → pm_X gs ro M d mc ms (c0 + 1) (s0 + N) (pc + 2) L (.ref (b + len) :: st) (b + len + 1) w' Q) : pm_X gs ro M d mc ms c0 s0 pc L (.int k :: st) n w Q := by
  subst hlen
  subst hn0
  subst hsh
  exact pm_newz h h1 hk hN hb hc hs hn (kk _ (rg_app hR rfl hu) (fun k hk => pm_up_n (by omega)))
/-- a final field gets a place of the region -/
theorem rg_pr {idx ci k j o : Nat} {t : List Nat} {ty : FieldType} (hR : rg sh b u n w) (h : decode M.2.1 pc = .ok (.putfield idx, 3)) (hf : pm_fl M.1.cls idx ci k ty true) (hi : M.1.name = "<init>") (hown : ∀ r, vwCl[ci]? = some r → r.1 = M.1.cls) (hx : sh[j]? = some (.inl (ci, t))) (hk : k < t.length) (hn : ∀ a : Nat, narrow ty (.ref a) = .ref a) (hfit : ∀ a : Nat, fits ty (.ref a) = true) (hsh : sh.set j (.inl (ci, t.set k (o + 2))) = sh')
    (kk : ∀ w', rg sh' b u n w' → (∀ k, k < b → w' k = w k) → pm_X gs ro M d mc ms c0 s0 (pc + 3) L st n w' Q) : pm_X gs ro M d mc ms c0 s0 pc L (.ref (b + o) :: .ref (b + j) :: st) n w Q := by
  subst hsh
  exact pm_putF h hf (rg_lt hR hx) (hR.2.2 j _ hx) (by rw [rg_fs_len]; exact hk) hi hown (fun ad => hn _) (fun ad => hfit _) (kk _ (rg_putr hR hx hk) (fun k hk => pm_up_n (by omega)))
end RGN
