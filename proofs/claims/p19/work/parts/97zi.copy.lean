/-! the class: rows copied -/
theorem c_copyRow {F o0 o1 N n : Nat} {u : rg_U} (hn : n ≤ N) (hN : N < 2 ^ 31) : ∃ w, g_X9_copyRow F o0 N o1 N (nI n) u = some w ∧ same0 u w ∧ ∀ j i, w.2.1 j i = if j = o1 ∧ i < n then u.2.1 o0 i else u.2.1 j i := by
  unfold g_X9_copyRow
  have e : imin (nI n) (imin (Int32.ofNat N) (Int32.ofNat N)) = nI n := by
    rw [show Int32.ofNat N = nI N from rfl, imin_nI hN hN, imin_nI (by omega) (by omega), Nat.min_self, Nat.min_eq_left hn]
  rw [e]
  by_cases q : n = 0
  · subst q
    rw [if_pos (by decide)]
    exact ⟨u, rfl, same0_r, fun j i => by rw [if_neg (by omega)]⟩
  · rw [if_neg (show ¬ nI n ≤ 0 from nI_ge (a := 0) (b := n) (by omega) (by omega)), ck_t (by
      unfold cpok
      rw [nI_clamp (by omega), show (0 : Int32).toNatClampNeg = 0 from rfl, Nat.zero_add]
      exact ⟨⟨by decide, by decide, nI_nlt (a := n) (b := 0) (by omega) (by omega)⟩, hn, hn⟩), lt1_i]
    refine ⟨_, rfl, ⟨rfl, rfl⟩, fun j i => ?_⟩
    show va_up u.2.1 o1 (va_cpy (u.2.1 o0) (u.2.1 o1) (0 : Int32).toNatClampNeg (0 : Int32).toNatClampNeg (nI n).toNatClampNeg) j i = _
    rw [nI_clamp (by omega), show (0 : Int32).toNatClampNeg = 0 from rfl]
    by_cases z : j = o1
    · subst z
      rw [pm_up_s]
      unfold va_cpy
      by_cases y : i < n
      · rw [if_pos (by omega), if_pos ⟨rfl, y⟩, Nat.zero_add, Nat.sub_zero]
      · rw [if_neg (by omega), if_neg (fun x => y x.2)]
    · rw [pm_up_n z, if_neg (fun x => z x.1)]
