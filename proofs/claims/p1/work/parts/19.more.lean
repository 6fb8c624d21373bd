section PMW
variable {gs : List String} {ro : pm_RO} {M : pm_M} {d mc ms c0 s0 pc : Nat} {L : List (Option Value)} {st : List Value} {n : Nat} {w : Nat → va_E} {Q : Option Value → Nat → (Nat → va_E) → Prop}
theorem pm_ldcw {k : Nat} {v : Int32} (h : decode M.2.1 pc = .ok (.ldc_w k, 3)) (hm : Cond.constant M.1.cls k v ∈ lw_g) (kk : pm_X gs ro M d mc ms c0 s0 (pc + 3) L (.int v :: st) n w Q) : pm_X gs ro M d mc ms c0 s0 pc L st n w Q := by
  intro p l e s m args below meth c H locs ls D cA ad ad0 n0 A F G LL SS
  exact lv_ldcw F.1 F.2.1 F.2.2.2.2.2.2.1 (F.2.2.2.2.2.2.2.1 _ hm) h (kk p l e s m args below meth c H locs ls D cA ad ad0 n0 A F G LL (pm_Si SS))
end PMW
/-- what a fresh method leaves, where only its answer matters: nothing but the region has changed -/
def pm_a (b m n : Nat) (w : Nat → va_E) (r : Option Value) : Option Value → Nat → (Nat → va_E) → Prop := fun rr n1 w1 => rr = r ∧ n1 = n ∧ rg_k b m w w1
