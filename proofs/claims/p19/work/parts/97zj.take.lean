/-! the class: calls and log of a run that is kept -/
theorem c_callsTake {F o0 o1 n : Nat} {u : rg_U} (hn : rF u o1 3 = nI n) (h : n ≤ 100) (hd : o0 + 3 < o1 ∨ o1 + 3 < o0) : ∃ w, g_X1_takeFrom F o0 o1 u = some w ∧ same0 (sF u o0 3 (nI n)) w ∧ ∀ j i, w.2.1 j i = if (o0 + 1 ≤ j ∧ j ≤ o0 + 3) ∧ i < n then u.2.1 (j - o0 + o1) i else u.2.1 j i := by
  have e0 : rF (sF u o0 3 (nI n)) o0 3 = nI n := by
    show upd u.1 _ (nI n) _ = _
    rw [pk_us]
  have es : ∀ {a b : rg_U}, same0 a b → rF a o0 3 = nI n → rF b o0 3 = nI n := fun {a b} hs hh => by
    have : rF b o0 3 = rF a o0 3 := by unfold rF; rw [hs.1]
    rw [this]; exact hh
  unfold g_X1_takeFrom
  rw [hn, lt1_i, e0]
  obtain ⟨w1, a1, a2, a3⟩ := c_copyRow (F := F) (o0 := o1 + 1) (o1 := o0 + 1) (N := 100) (n := n) (u := sF u o0 3 (nI n)) h (by decide)
  rw [a1, ob_i, es a2 e0]
  obtain ⟨w2, b1, b2, b3⟩ := c_copyRow (F := F) (o0 := o1 + 2) (o1 := o0 + 2) (N := 100) (n := n) (u := w1) h (by decide)
  rw [b1, ob_i, es b2 (es a2 e0)]
  obtain ⟨w3, c1, c2, c3⟩ := c_copyRow (F := F) (o0 := o1 + 3) (o1 := o0 + 3) (N := 100) (n := n) (u := w2) h (by decide)
  rw [c1, ob_i]
  refine ⟨w3, rfl, ⟨c2.1.trans (b2.1.trans a2.1), c2.2.trans (b2.2.trans a2.2)⟩, fun j i => ?_⟩
  have u0 : ∀ j i, (sF u o0 3 (nI n)).2.1 j i = u.2.1 j i := fun _ _ => rfl
  rw [c3]
  by_cases z : i < n
  · by_cases j3 : j = o0 + 3
    · subst j3
      rw [if_pos ⟨rfl, z⟩, b3, if_neg (by omega), a3, if_neg (by omega), u0, if_pos (by omega), show o0 + 3 - o0 + o1 = o1 + 3 by omega]
    · rw [if_neg (fun q => j3 q.1), b3]
      by_cases j2 : j = o0 + 2
      · subst j2
        rw [if_pos ⟨rfl, z⟩, a3, if_neg (by omega), u0, if_pos (by omega), show o0 + 2 - o0 + o1 = o1 + 2 by omega]
      · rw [if_neg (fun q => j2 q.1), a3]
        by_cases j1 : j = o0 + 1
        · subst j1
          rw [if_pos ⟨rfl, z⟩, u0, if_pos (by omega), show o0 + 1 - o0 + o1 = o1 + 1 by omega]
        · rw [if_neg (fun q => j1 q.1), u0, if_neg (by omega)]
  · rw [if_neg (fun q => z q.2), b3, if_neg (fun q => z q.2), a3, if_neg (fun q => z q.2), u0, if_neg (fun q => z q.2)]
