/-! what an order looks at -/
def isReg (x : Int32) : Prop := ∃ p, p < 8 ∧ x = nI p
theorem isRg {x : Int32} (h : ¬ g_X10_isRegister x = 0) : isReg x := by
  obtain ⟨k, e, h1, h2⟩ := in_nat (v := x) h (by decide)
  have e1 : (7 : Int32).toInt = 7 := rfl
  exact ⟨k, by omega, e⟩
theorem fine_b {k a b c : Int32} (h : ¬ g_X10_isFine k a b c = 0) (hk : k = 3 ∨ k = 11 ∨ k = 13 ∨ k = 14) : isReg a ∧ isReg b := by
  rcases hk with rfl | rfl | rfl | rfl
  · have e : g_X10_isFine 3 a b c = if g_X10_isRegister a = 0 then 0 else g_X10_isRegister b := rfl
    rw [e] at h
    by_cases q : g_X10_isRegister a = 0
    · rw [if_pos q] at h; exact absurd rfl h
    · rw [if_neg q] at h; exact ⟨isRg q, isRg h⟩
  · have e : g_X10_isFine 11 a b c = if g_X10_isRegister a = 0 then 0 else g_X10_isRegister b := rfl
    rw [e] at h
    by_cases q : g_X10_isRegister a = 0
    · rw [if_pos q] at h; exact absurd rfl h
    · rw [if_neg q] at h; exact ⟨isRg q, isRg h⟩
  · have e : g_X10_isFine 13 a b c = if g_X10_isRegister a = 0 then 0 else g_X10_isRegister b := rfl
    rw [e] at h
    by_cases q : g_X10_isRegister a = 0
    · rw [if_pos q] at h; exact absurd rfl h
    · rw [if_neg q] at h; exact ⟨isRg q, isRg h⟩
  · have e : g_X10_isFine 14 a b c = if g_X10_isRegister a = 0 then 0 else g_X10_isRegister b := rfl
    rw [e] at h
    by_cases q : g_X10_isRegister a = 0
    · rw [if_pos q] at h; exact absurd rfl h
    · rw [if_neg q] at h; exact ⟨isRg q, isRg h⟩
theorem fine_c {k a b c : Int32} (h : ¬ g_X10_isFine k a b c = 0) (hk : ¬ g_X10_isIn k 4 10 = 0 ∨ k = 12) : isReg a ∧ isReg b ∧ isReg c := by
  have e : g_X10_isFine k a b c = if g_X10_isRegister a = 0 then 0 else if g_X10_isRegister b = 0 then 0 else if g_X10_isRegister c = 0 then 0 else 1 := by
    rcases hk with hk | rfl
    · obtain ⟨n, rfl, h1, h2⟩ := in_nat hk (by decide)
      have e1 : (4 : Int32).toInt = 4 := rfl
      have e2 : (10 : Int32).toInt = 10 := rfl
      rcases (show n = 4 ∨ n = 5 ∨ n = 6 ∨ n = 7 ∨ n = 8 ∨ n = 9 ∨ n = 10 by omega) with rfl | rfl | rfl | rfl | rfl | rfl | rfl
      · exact fe_4.symm.trans (by rw [show askA 4 = 1 from rfl, show askB 4 = 1 from rfl, show askC 4 = 1 from rfl, ft1, ft1, ft1])
      · exact fe_5.symm.trans (by rw [show askA 5 = 1 from rfl, show askB 5 = 1 from rfl, show askC 5 = 1 from rfl, ft1, ft1, ft1])
      · exact fe_6.symm.trans (by rw [show askA 6 = 1 from rfl, show askB 6 = 1 from rfl, show askC 6 = 1 from rfl, ft1, ft1, ft1])
      · exact fe_7.symm.trans (by rw [show askA 7 = 1 from rfl, show askB 7 = 1 from rfl, show askC 7 = 1 from rfl, ft1, ft1, ft1])
      · exact fe_8.symm.trans (by rw [show askA 8 = 1 from rfl, show askB 8 = 1 from rfl, show askC 8 = 1 from rfl, ft1, ft1, ft1])
      · exact fe_9.symm.trans (by rw [show askA 9 = 1 from rfl, show askB 9 = 1 from rfl, show askC 9 = 1 from rfl, ft1, ft1, ft1])
      · exact fe_10.symm.trans (by rw [show askA 10 = 1 from rfl, show askB 10 = 1 from rfl, show askC 10 = 1 from rfl, ft1, ft1, ft1])
    · exact fe_12.symm.trans (by rw [show askA 12 = 1 from rfl, show askB 12 = 1 from rfl, show askC 12 = 1 from rfl, ft1, ft1, ft1])
  rw [e] at h
  by_cases q : g_X10_isRegister a = 0
  · rw [if_pos q] at h; exact absurd rfl h
  rw [if_neg q] at h
  by_cases p : g_X10_isRegister b = 0
  · rw [if_pos p] at h; exact absurd rfl h
  rw [if_neg p] at h
  by_cases r : g_X10_isRegister c = 0
  · rw [if_pos r] at h; exact absurd rfl h
  exact ⟨isRg q, isRg p, isRg r⟩
theorem rw_rw {u : rg_U} {o : Nat} {m m' : Nat → Int32} : rw_ (rw_ u o m) o m' = rw_ u o m' := by
  unfold rw_
  dsimp only
  rw [va_twice]
theorem rw_A {u : rg_U} {o : Nat} {m : Nat → Int32} : (rw_ u o m).2.1 o = m := pm_up_s
theorem rw_n {u : rg_U} {o j : Nat} {m : Nat → Int32} (h : j ≠ o) : (rw_ u o m).2.1 j = u.2.1 j := pm_up_n h
/-- what is looked at: A is kept beside, R by place -/
def lkA (P : Prg) (m : Row) (l : Nat) (R A : Nat → Int32) : Nat → Int32 :=
  let k := kindOf P (m 120)
  let c := tn (m 120)
  let A0 := clA A
  if k = -1 then A0 else
  let A1 := if k = 3 ∨ k = 11 ∨ k = 14 ∨ k = 13 ∨ ¬ g_X10_isIn k 4 10 = 0 ∨ k = 12 then orB A0 R (tn (P.2.2.1 c)) else A0
  let A2 := if ¬ g_X10_isIn k 4 10 = 0 ∨ k = 12 then orB A1 R (tn (P.2.2.2 c)) else A1
  let A3 := if k = 14 then orB A2 R (tn (P.2.1 c)) else A2
  let A4 := if k = 13 ∧ ¬ g_X10_isIn (m (40 + tn (P.2.2.1 c))) 0 31 = 0 then orB A3 R (8 + tn (m (40 + tn (P.2.2.1 c)))) else A3
  let A5 := if k = 19 ∨ k = 20 then addB A4 (3008 + l) else A4
  addB A5 (tn (m 133))
