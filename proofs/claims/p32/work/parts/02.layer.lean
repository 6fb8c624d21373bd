/-! A LAYER OVER THE KIT'S ROWS: the machine seen purely. A world is a function from places (numbers) to cells, whose references are places again; where the places lie in the heap (ad), the regions, the words, the room are hidden in pm_X. -/
def pm_v (ad : Nat → Nat) (v : Value) : Value := match v with
  | .ref k => .ref (ad k)
  | v => v
theorem pm_v_cat (ad : Nat → Nat) (v : Value) : (pm_v ad v).category = v.category := by cases v <;> rfl
abbrev pm_A : Type := (Nat → Int32) ⊕ (Nat → Int64) ⊕ (Nat → UInt32) ⊕ (Nat → UInt64) ⊕ (Nat → Option Nat)
def pm_x (ad : Nat → Nat) (x : pm_A) : pm_A := match x with
  | .inr (.inr (.inr (.inr g))) => .inr (.inr (.inr (.inr (fun i => (g i).map ad))))
  | x => x
def pm_e (cA : Nat → ClassId) (ad : Nat → Nat) (e : va_E) : va_E := match e with
  | .inl (t, N, x) => .inl (cA t, N, pm_x ad x)
  | .inr (ci, fs) => .inr (ci, fs.map (pm_v ad))
def pm_W (cA : Nat → ClassId) (ad : Nat → Nat) (n : Nat) (w : Nat → va_E) : va_W := (List.range n).map (fun k => (ad k, pm_e cA ad (w k)))
theorem pm_W_len {cA : Nat → ClassId} {ad : Nat → Nat} {n : Nat} {w : Nat → va_E} : (pm_W cA ad n w).length = n := by simp [pm_W]
theorem pm_W_get {cA : Nat → ClassId} {ad : Nat → Nat} {n k : Nat} {w : Nat → va_E} (h : k < n) : (pm_W cA ad n w)[k]? = some (ad k, pm_e cA ad (w k)) := by
  simp [pm_W, h]
theorem pm_W_inv {cA : Nat → ClassId} {ad : Nat → Nat} {n k : Nat} {w : Nat → va_E} {q : Nat × va_E} (h : (pm_W cA ad n w)[k]? = some q) : k < n ∧ q = (ad k, pm_e cA ad (w k)) := by
  have hk : k < n := by
    have := (List.getElem?_eq_some_iff.mp h).1
    rwa [pm_W_len] at this
  rw [pm_W_get hk] at h
  exact ⟨hk, (Option.some.inj h).symm⟩
theorem pm_up_s {α : Type} {f : Nat → α} {k : Nat} {v : α} : va_up f k v k = v := by simp [va_up]
theorem pm_up_n {α : Type} {f : Nat → α} {k j : Nat} {v : α} (h : j ≠ k) : va_up f k v j = f j := by simp [va_up, h]
theorem pm_W_set {cA : Nat → ClassId} {ad : Nat → Nat} {n k : Nat} {w : Nat → va_E} (e : va_E) : (pm_W cA ad n w).set k (ad k, pm_e cA ad e) = pm_W cA ad n (va_up w k e) := by
  apply List.ext_getElem?
  intro j
  rw [List.getElem?_set, pm_W_len]
  by_cases hj : k = j
  · subst hj
    by_cases hk : k < n
    · rw [if_pos rfl, if_pos hk, pm_W_get hk, pm_up_s]
    · rw [if_pos rfl, if_neg hk, eq_comm, List.getElem?_eq_none_iff, pm_W_len]
      omega
  · rw [if_neg hj]
    by_cases hk : j < n
    · rw [pm_W_get hk, pm_W_get hk, pm_up_n (fun q => hj q.symm)]
    · rw [List.getElem?_eq_none_iff.mpr (by rw [pm_W_len]; omega), List.getElem?_eq_none_iff.mpr (by rw [pm_W_len]; omega)]
/-- a value, a cell, a world whose references are places of the world (or of the read-only arrays) -/
def pm_ok (n : Nat) (v : Value) : Prop := ∀ k, v = .ref k → k < n ∨ 1000000 ≤ k
def pm_ek (n : Nat) (e : va_E) : Prop := (∀ t N g, e = .inl (t, N, .inr (.inr (.inr (.inr g)))) → ∀ i k, g i = some k → k < n) ∧ ∀ ci fs, e = .inr (ci, fs) → ∀ v ∈ fs, pm_ok n v
def pm_wk (n : Nat) (w : Nat → va_E) : Prop := ∀ k, k < n → pm_ek n (w k)
theorem pm_oki {n : Nat} {x : Int32} : pm_ok n (.int x) := fun k h => by cases h
theorem pm_okn {n : Nat} : pm_ok n .null := fun k h => by cases h
theorem pm_okr {n k : Nat} (h : k < n) : pm_ok n (.ref k) := fun j e => by cases e; exact Or.inl h
theorem pm_okm {n n' : Nat} {v : Value} (h : n ≤ n') (hv : pm_ok n v) : pm_ok n' v := fun k e => (hv k e).imp (fun q => Nat.lt_of_lt_of_le q h) id
theorem pm_ekm {n n' : Nat} {e : va_E} (h : n ≤ n') (hv : pm_ek n e) : pm_ek n' e := ⟨fun t N g q i k z => Nat.lt_of_lt_of_le (hv.1 t N g q i k z) h, fun ci fs q v z => pm_okm h (hv.2 ci fs q v z)⟩
theorem pm_eki {n t N : Nat} {f : Nat → Int32} : pm_ek n (.inl (t, N, .inl f)) := ⟨fun t N g q => (by simp at q), fun ci fs q => (by cases q)⟩
theorem pm_eko {n ci : Nat} {fs : List Value} (h : ∀ v ∈ fs, pm_ok n v) : pm_ek n (.inr (ci, fs)) := ⟨fun t N g q => (by cases q), fun ci' fs' q => (by cases q; exact h)⟩
theorem pm_ekq {n t N : Nat} {g : Nat → Option Nat} (h : ∀ i k, g i = some k → k < n) : pm_ek n (.inl (t, N, .inr (.inr (.inr (.inr g))))) := ⟨fun t N g' q => (by simp at q; obtain ⟨-, -, rfl⟩ := q; exact h), fun ci fs q => (by cases q)⟩
theorem pm_wku {n k : Nat} {w : Nat → va_E} {e : va_E} (h : pm_wk n w) (he : pm_ek n e) : pm_wk n (va_up w k e) := fun j hj => by
  by_cases q : j = k
  · subst q; rw [pm_up_s]; exact he
  · rw [pm_up_n q]; exact h j hj
/-- two layings that agree on the world's places agree on all that it holds -/
def pm_ag (n : Nat) (ad ad' : Nat → Nat) : Prop := ∀ k, k < n ∨ 1000000 ≤ k → ad' k = ad k
theorem pm_v_ag {n : Nat} {ad ad' : Nat → Nat} (h : pm_ag n ad ad') {v : Value} (hv : pm_ok n v) : pm_v ad' v = pm_v ad v := by
  cases v with
  | ref k => exact congrArg Value.ref (h k (hv k rfl))
  | _ => rfl
theorem pm_vs_ag {n : Nat} {ad ad' : Nat → Nat} (h : pm_ag n ad ad') {vs : List Value} (hv : ∀ v ∈ vs, pm_ok n v) : vs.map (pm_v ad') = vs.map (pm_v ad) := List.map_congr_left fun v q => pm_v_ag h (hv v q)
theorem pm_e_ag {n : Nat} {cA : Nat → ClassId} {ad ad' : Nat → Nat} (h : pm_ag n ad ad') {e : va_E} (he : pm_ek n e) : pm_e cA ad' e = pm_e cA ad e := by
  rcases e with ⟨t, N, f | f | f | f | g⟩ | ⟨ci, fs⟩
  · rfl
  · rfl
  · rfl
  · rfl
  · have hg : (fun i => (g i).map ad') = fun i => (g i).map ad := funext fun i => by
      cases hi : g i with
      | none => rfl
      | some k => exact congrArg some (h k (Or.inl (he.1 t N g rfl i k hi)))
    show Sum.inl (cA t, N, Sum.inr (Sum.inr (Sum.inr (Sum.inr (fun i => (g i).map ad'))))) = Sum.inl (cA t, N, Sum.inr (Sum.inr (Sum.inr (Sum.inr (fun i => (g i).map ad)))))
    rw [hg]
  · show Sum.inr (ci, fs.map (pm_v ad')) = Sum.inr (ci, fs.map (pm_v ad))
    rw [pm_vs_ag h (he.2 ci fs rfl)]
theorem pm_W_ag {n : Nat} {cA : Nat → ClassId} {ad ad' : Nat → Nat} (h : pm_ag n ad ad') {w : Nat → va_E} (hw : pm_wk n w) : pm_W cA ad' n w = pm_W cA ad n w := by
  apply List.ext_getElem?
  intro j
  by_cases hj : j < n
  · rw [pm_W_get hj, pm_W_get hj, h j (Or.inl hj), pm_e_ag h (hw j hj)]
  · rw [List.getElem?_eq_none_iff.mpr (by rw [pm_W_len]; omega), List.getElem?_eq_none_iff.mpr (by rw [pm_W_len]; omega)]
theorem pm_W_push {n q : Nat} {cA : Nat → ClassId} {ad : Nat → Nat} {w : Nat → va_E} {e : va_E} (hn : n < 1000000) (hw : pm_wk n w) (he : pm_ek n e) : pm_W cA ad n w ++ [(q, pm_e cA ad e)] = pm_W cA (va_up ad n q) (n + 1) (va_up w n e) := by
  have hag : pm_ag n ad (va_up ad n q) := fun k hk => pm_up_n (by omega)
  apply List.ext_getElem?
  intro j
  by_cases hj : j < n
  · rw [List.getElem?_append_left (by rw [pm_W_len]; exact hj), pm_W_get hj, pm_W_get (Nat.lt_succ_of_lt hj), pm_up_n (Nat.ne_of_lt hj), pm_up_n (Nat.ne_of_lt hj), pm_e_ag hag (hw j hj)]
  · by_cases hj2 : j = n
    · subst hj2
      rw [List.getElem?_append_right (by rw [pm_W_len]; exact Nat.le_refl _), pm_W_len, Nat.sub_self, pm_W_get (Nat.lt_succ_self _), pm_up_s, pm_up_s, pm_e_ag hag he]
      rfl
    · rw [List.getElem?_eq_none_iff.mpr (by rw [List.length_append, pm_W_len]; simp; omega), List.getElem?_eq_none_iff.mpr (by rw [pm_W_len]; omega)]
