/-! REGIONS: a run of places of a known shape, and what they hold as numbers: the int at slot s of the object at offset j is u.1 (100 * j + s), the ints of the array at offset j are u.2.1 j, a reference that may change is u.2.2.1 (100 * j + s), the references of an array u.2.2.2 j (both: offsets) -/
abbrev rg_U : Type := (Nat → Int32) × (Nat → Nat → Int32) × (Nat → Option Nat) × (Nat → Nat → Option Nat)
/-- object (number of its class, fields: 0 an int, 1 a reference that may change, k + 2 the place at offset k), array of ints (tag, length), array of references (tag, length) -/
abbrev rg_S : Type := (Nat × List Nat) ⊕ (Nat × Nat) ⊕ (Nat × Nat)
def rg_f (b : Nat) (u : rg_U) (j s c : Nat) : Value := match c with
  | 0 => .int (u.1 (100 * j + s))
  | 1 => va_rf ((u.2.2.1 (100 * j + s)).map (fun k => b + k))
  | k + 2 => .ref (b + k)
def rg_fs (b : Nat) (u : rg_U) (j : Nat) (t : List Nat) : List Value := (List.range t.length).map (fun s => rg_f b u j s (t.getD s 0))
def rg_e (b : Nat) (u : rg_U) (j : Nat) (x : rg_S) : va_E := match x with
  | .inl (ci, t) => .inr (ci, rg_fs b u j t)
  | .inr (.inl (tag, N)) => .inl (tag, N, .inl (u.2.1 j))
  | .inr (.inr (tag, N)) => .inl (tag, N, .inr (.inr (.inr (.inr (fun i => (u.2.2.2 j i).map (fun k => b + k))))))
def rg_wf (sh : List rg_S) : Bool := sh.all (fun x => match x with | .inl (_, t) => decide (t.length ≤ 100) | _ => true)
def rg (sh : List rg_S) (b : Nat) (u : rg_U) (n : Nat) (w : Nat → va_E) : Prop := rg_wf sh = true ∧ b + sh.length ≤ n ∧ ∀ (j : Nat) (x : rg_S), sh[j]? = some x → w (b + j) = rg_e b u j x
def rg_F (u : rg_U) (k : Nat) (v : Int32) : rg_U := (upd u.1 k v, u.2)
def rg_R (u : rg_U) (j i : Nat) (x : Int32) : rg_U := (u.1, va_up u.2.1 j (upd (u.2.1 j) i x), u.2.2)
def rg_G (u : rg_U) (k : Nat) (r : Option Nat) : rg_U := (u.1, u.2.1, va_up u.2.2.1 k r, u.2.2.2)
/-- nothing but the region has changed -/
def rg_k (b m : Nat) (w w' : Nat → va_E) : Prop := ∀ k, k < b ∨ b + m ≤ k → w' k = w k
theorem rg_k0 {b m : Nat} {w : Nat → va_E} : rg_k b m w w := fun _ _ => rfl
theorem rg_kt {b m : Nat} {w w' w'' : Nat → va_E} (h : rg_k b m w w') (h2 : rg_k b m w' w'') : rg_k b m w w'' := fun k hk => (h2 k hk).trans (h k hk)
theorem rg_ku {b m j : Nat} {w : Nat → va_E} {e : va_E} (hj : j < m) : rg_k b m w (va_up w (b + j) e) := fun k hk => pm_up_n (by omega)
theorem rg_lt {sh : List rg_S} {b : Nat} {u : rg_U} {n : Nat} {w : Nat → va_E} {j : Nat} {x : rg_S} (h : rg sh b u n w) (hx : sh[j]? = some x) : b + j < n := by
  have := (List.getElem?_eq_some_iff.mp hx).1
  have := h.2.1
  omega
theorem rg_fs_get {b : Nat} {u : rg_U} {j s c : Nat} {t : List Nat} (h : t[s]? = some c) : (rg_fs b u j t)[s]? = some (rg_f b u j s c) := by
  have hs := (List.getElem?_eq_some_iff.mp h).1
  have hc := (List.getElem?_eq_some_iff.mp h).2
  simp [rg_fs, hs, hc]
theorem rg_fs_len {b : Nat} {u : rg_U} {j : Nat} {t : List Nat} : (rg_fs b u j t).length = t.length := by simp [rg_fs]
theorem rg_t {sh : List rg_S} (h : rg_wf sh = true) {j ci : Nat} {t : List Nat} (hx : sh[j]? = some (.inl (ci, t))) : t.length ≤ 100 := by
  have := List.all_eq_true.mp h _ (List.mem_of_getElem? hx)
  simpa using this
theorem rg_fs_put {b : Nat} {u : rg_U} {j s : Nat} {t : List Nat} {v : Int32} (h : t[s]? = some 0) (hl : t.length ≤ 100) : (rg_fs b u j t).set s (.int v) = rg_fs b (rg_F u (100 * j + s) v) j t := by
  have hs := (List.getElem?_eq_some_iff.mp h).1
  apply List.ext_getElem?
  intro i
  rw [List.getElem?_set, rg_fs_len]
  by_cases hi : s = i
  · subst hi
    rw [if_pos rfl, if_pos hs, rg_fs_get h]
    show _ = some (Value.int (upd u.1 (100 * j + s) v (100 * j + s)))
    rw [pk_us]
  · rw [if_neg hi]
    by_cases hi2 : i < t.length
    · rw [rg_fs_get (List.getElem?_eq_getElem hi2), rg_fs_get (List.getElem?_eq_getElem hi2)]
      cases t[i] with
      | zero =>
        show some (Value.int (u.1 _)) = some (Value.int (upd u.1 (100 * j + s) v _))
        rw [pk_un (by omega)]
      | succ k => cases k <;> rfl
    · rw [List.getElem?_eq_none_iff.mpr (by rw [rg_fs_len]; omega), List.getElem?_eq_none_iff.mpr (by rw [rg_fs_len]; omega)]
theorem rg_e_F {b : Nat} {u : rg_U} {j j' s : Nat} {v : Int32} {x : rg_S} (hs : s < 100) (hx : ∀ ci t, x = .inl (ci, t) → t.length ≤ 100) (hj : j' ≠ j) : rg_e b (rg_F u (100 * j + s) v) j' x = rg_e b u j' x := by
  rcases x with ⟨ci, t⟩ | ⟨tag, N⟩ | ⟨tag, N⟩
  · have hl := hx ci t rfl
    show Sum.inr (ci, rg_fs b (rg_F u (100 * j + s) v) j' t) = Sum.inr (ci, rg_fs b u j' t)
    congr 2
    apply List.map_congr_left
    intro i hi
    have hi := List.mem_range.mp hi
    cases t.getD i 0 with
    | zero =>
      show Value.int (upd u.1 (100 * j + s) v _) = Value.int (u.1 _)
      rw [pk_un (by omega)]
    | succ k => cases k <;> rfl
  · rfl
  · rfl
theorem rg_putF {sh : List rg_S} {b : Nat} {u : rg_U} {n : Nat} {w : Nat → va_E} {j ci s : Nat} {t : List Nat} {v : Int32} (h : rg sh b u n w) (hx : sh[j]? = some (.inl (ci, t))) (ht : t[s]? = some 0) : rg sh b (rg_F u (100 * j + s) v) n (va_up w (b + j) (.inr (ci, (rg_fs b u j t).set s (.int v)))) := by
  have hl := rg_t h.1 hx
  have hs := (List.getElem?_eq_some_iff.mp ht).1
  refine ⟨h.1, h.2.1, fun j' x hx' => ?_⟩
  by_cases hj : j' = j
  · subst hj
    rw [pm_up_s]
    rw [hx] at hx'
    cases hx'
    rw [rg_fs_put ht hl]
    rfl
  · rw [pm_up_n (by omega), h.2.2 j' x hx', rg_e_F (by omega) (fun ci t q => by subst q; exact rg_t h.1 hx') hj]
theorem rg_putR {sh : List rg_S} {b : Nat} {u : rg_U} {n : Nat} {w : Nat → va_E} {j tag N i : Nat} {v : Int32} (h : rg sh b u n w) (hx : sh[j]? = some (.inr (.inl (tag, N)))) : rg sh b (rg_R u j i v) n (va_up w (b + j) (.inl (tag, N, .inl (upd (u.2.1 j) i v)))) := by
  refine ⟨h.1, h.2.1, fun j' x hx' => ?_⟩
  by_cases hj : j' = j
  · subst hj
    rw [pm_up_s]
    rw [hx] at hx'
    cases hx'
    show _ = Sum.inl (tag, N, Sum.inl (va_up u.2.1 j' (upd (u.2.1 j') i v) j'))
    rw [pm_up_s]
  · rw [pm_up_n (by omega), h.2.2 j' x hx']
    rcases x with ⟨ci, t⟩ | ⟨tag, N⟩ | ⟨tag, N⟩
    · rfl
    · show _ = Sum.inl (tag, N, Sum.inl (va_up u.2.1 j (upd (u.2.1 j) i v) j'))
      rw [pm_up_n hj]
      rfl
    · rfl
theorem rg_keep {sh : List rg_S} {b : Nat} {u : rg_U} {n n' : Nat} {w w' : Nat → va_E} (h : rg sh b u n w) (hn : n ≤ n') (hk : ∀ j, j < sh.length → w' (b + j) = w (b + j)) : rg sh b u n' w' := ⟨h.1, Nat.le_trans h.2.1 hn, fun j x hx => by rw [hk j (List.getElem?_eq_some_iff.mp hx).1]; exact h.2.2 j x hx⟩
section RGR
variable {gs : List String} {ro : pm_RO} {M : pm_M} {d mc ms c0 s0 pc : Nat} {L : List (Option Value)} {st : List Value} {n : Nat} {w : Nat → va_E} {Q : Option Value → Nat → (Nat → va_E) → Prop} {sh : List rg_S} {b : Nat} {u : rg_U}
/-- getfield, an int -/
theorem rg_gi {idx ci k j : Nat} {ty : FieldType} {fin : Bool} {t : List Nat} (hR : rg sh b u n w) (h : decode M.2.1 pc = .ok (.getfield idx, 3)) (hf : pm_fl M.1.cls idx ci k ty fin) (hx : sh[j]? = some (.inl (ci, t))) (ht : t[k]? = some 0) (kk : pm_X gs ro M d mc ms c0 s0 (pc + 3) L (.int (u.1 (100 * j + k)) :: st) n w Q) : pm_X gs ro M d mc ms c0 s0 pc L (.ref (b + j) :: st) n w Q :=
  pm_get h hf (rg_lt hR hx) (hR.2.2 j _ hx) (rg_fs_get ht) kk
/-- getfield, a place of the region -/
theorem rg_gr {idx ci k j o : Nat} {ty : FieldType} {fin : Bool} {t : List Nat} (hR : rg sh b u n w) (h : decode M.2.1 pc = .ok (.getfield idx, 3)) (hf : pm_fl M.1.cls idx ci k ty fin) (hx : sh[j]? = some (.inl (ci, t))) (ht : t[k]? = some (o + 2)) (kk : pm_X gs ro M d mc ms c0 s0 (pc + 3) L (.ref (b + o) :: st) n w Q) : pm_X gs ro M d mc ms c0 s0 pc L (.ref (b + j) :: st) n w Q :=
  pm_get h hf (rg_lt hR hx) (hR.2.2 j _ hx) (rg_fs_get ht) kk
/-- putfield, an int -/
theorem rg_pi {idx ci k j : Nat} {t : List Nat} {v : Int32} (hR : rg sh b u n w) (h : decode M.2.1 pc = .ok (.putfield idx, 3)) (hf : pm_fl M.1.cls idx ci k .int false) (hx : sh[j]? = some (.inl (ci, t))) (ht : t[k]? = some 0) (kk : ∀ w', rg sh b (rg_F u (100 * j + k) v) n w' → rg_k b sh.length w w' → pm_X gs ro M d mc ms c0 s0 (pc + 3) L st n w' Q) : pm_X gs ro M d mc ms c0 s0 pc L (.int v :: .ref (b + j) :: st) n w Q :=
  pm_put h hf (rg_lt hR hx) (hR.2.2 j _ hx) (by rw [rg_fs_len]; exact (List.getElem?_eq_some_iff.mp ht).1) (fun _ => rfl) (fun _ => rfl) (kk _ (rg_putF hR hx ht) (rg_ku (List.getElem?_eq_some_iff.mp hx).1))
/-- iaload, iastore, baload, bastore, arraylength -/
theorem rg_al {j N : Nat} {i : Int32} (hR : rg sh b u n w) (h : decode M.2.1 pc = .ok (.iaload, 1)) (hx : sh[j]? = some (.inr (.inl (0, N)))) (hi : vp_in i N) (kk : pm_X gs ro M d mc ms c0 s0 (pc + 1) L (.int (u.2.1 j i.toNatClampNeg) :: st) n w Q) : pm_X gs ro M d mc ms c0 s0 pc L (.int i :: .ref (b + j) :: st) n w Q :=
  pm_iald h (rg_lt hR hx) (hR.2.2 j _ hx) hi kk
theorem rg_zl {j N : Nat} {i : Int32} (hR : rg sh b u n w) (h : decode M.2.1 pc = .ok (.baload, 1)) (hx : sh[j]? = some (.inr (.inl (1, N)))) (hi : vp_in i N) (kk : pm_X gs ro M d mc ms c0 s0 (pc + 1) L (.int (u.2.1 j i.toNatClampNeg) :: st) n w Q) : pm_X gs ro M d mc ms c0 s0 pc L (.int i :: .ref (b + j) :: st) n w Q :=
  pm_zald h (rg_lt hR hx) (hR.2.2 j _ hx) hi kk
theorem rg_as {j N : Nat} {i v : Int32} (hR : rg sh b u n w) (h : decode M.2.1 pc = .ok (.iastore, 1)) (hx : sh[j]? = some (.inr (.inl (0, N)))) (hi : vp_in i N) (kk : ∀ w', rg sh b (rg_R u j i.toNatClampNeg v) n w' → rg_k b sh.length w w' → pm_X gs ro M d mc ms c0 s0 (pc + 1) L st n w' Q) : pm_X gs ro M d mc ms c0 s0 pc L (.int v :: .int i :: .ref (b + j) :: st) n w Q :=
  pm_iast h (rg_lt hR hx) (hR.2.2 j _ hx) hi (kk _ (rg_putR hR hx) (rg_ku (List.getElem?_eq_some_iff.mp hx).1))
theorem rg_zs {j N : Nat} {i v : Int32} (hR : rg sh b u n w) (h : decode M.2.1 pc = .ok (.bastore, 1)) (hx : sh[j]? = some (.inr (.inl (1, N)))) (hi : vp_in i N) (kk : ∀ w', rg sh b (rg_R u j i.toNatClampNeg (vp_nar .boolean v)) n w' → rg_k b sh.length w w' → pm_X gs ro M d mc ms c0 s0 (pc + 1) L st n w' Q) : pm_X gs ro M d mc ms c0 s0 pc L (.int v :: .int i :: .ref (b + j) :: st) n w Q :=
  pm_zast h (rg_lt hR hx) (hR.2.2 j _ hx) hi (kk _ (rg_putR hR hx) (rg_ku (List.getElem?_eq_some_iff.mp hx).1))
end RGR
