/-- what a method of a region's object leaves: its answer, the region's new numbers, all else as it was -/
def rg_post (sh : List rg_S) (b n : Nat) (w : Nat → va_E) (r : Option Value) (u : rg_U) : Option Value → Nat → (Nat → va_E) → Prop := fun rr n1 w1 => rr = r ∧ n1 = n ∧ rg sh b u n w1 ∧ rg_k b sh.length w w1
section RGC
variable {gs : List String} {ro roc : pm_RO} {M Mc : pm_M} {d dc mc ms c0 s0 pc : Nat} {L : List (Option Value)} {st As : List Value} {n : Nat} {w : Nat → va_E} {Q Qc : Option Value → Nat → (Nat → va_E) → Prop} {sh : List rg_S} {b : Nat} {u : rg_U}
theorem rg_cV {idx j ci : Nat} {t : List Nat} (hR : rg sh b u n w) (h : decode M.2.1 pc = .ok (.invokevirtual idx, 3)) (hl : pm_lV M.1.cls idx Mc As.length) (hcl : ∃ T N, vwCl[ci]? = some (Mc.1.cls, T, N)) (hx : sh[j]? = some (.inl (ci, t))) (hd : dc + 1 ≤ d) (hc : c0 ≤ mc) (hs : s0 ≤ ms) (hst : (st.map fun v => v.category).sum ≤ 8) {st0 : List Value} (hst0 : As.reverse ++ .ref (b + j) :: st = st0)
    (hM : pm_Met gs ro Mc dc 0 0 (.ref (b + j) :: As) n w Qc) (kk : ∀ r n' w', Qc r n' w' → pm_X gs ro M d mc ms c0 s0 (pc + 3) L (r.toList ++ st) n' w' Q) : pm_X gs ro M d mc ms c0 s0 pc L st0 n w Q :=
  pm_callV h hl hcl (rg_lt hR hx) (hR.2.2 j _ hx) (fun _ _ q => q) hd hc hs hst hst0 hM (fun r n' w' hq _ => kk r n' w' hq)
theorem rg_cS {idx : Nat} (h : decode M.2.1 pc = .ok (.invokestatic idx, 3)) (hl : pm_lS M.1.cls idx Mc As.length) (hd : dc + 1 ≤ d) (hc : c0 ≤ mc) (hs : s0 ≤ ms) (hst : (st.map fun v => v.category).sum ≤ 8) {st0 : List Value} (hst0 : As.reverse ++ st = st0)
    (hM : pm_Met gs ro Mc dc 0 0 As n w Qc) (kk : ∀ r n' w', Qc r n' w' → pm_X gs ro M d mc ms c0 s0 (pc + 3) L (r.toList ++ st) n' w' Q) : pm_X gs ro M d mc ms c0 s0 pc L st0 n w Q :=
  pm_callS h hl (fun _ _ q => q) hd hc hs hst hst0 hM (fun r n' w' hq _ => kk r n' w' hq)
end RGC
section PMI
variable {gs : List String} {ro : pm_RO} {M : pm_M} {d mc ms c0 s0 pc : Nat} {L : List (Option Value)} {st : List Value} {n : Nat} {w : Nat → va_E} {Q : Option Value → Nat → (Nat → va_E) → Prop}
/-- the int on top, said otherwise -/
theorem pm_i {x y : Int32} (h : x = y) (kk : pm_X gs ro M d mc ms c0 s0 pc L (.int y :: st) n w Q) : pm_X gs ro M d mc ms c0 s0 pc L (.int x :: st) n w Q := h ▸ kk
end PMI
/-- a method that changes nothing -/
def pm_p (n : Nat) (w : Nat → va_E) (r : Option Value) : Option Value → Nat → (Nat → va_E) → Prop := fun rr n1 w1 => n1 = n ∧ w1 = w ∧ rr = r
section PML
variable {gs : List String} {ro : pm_RO} {M : pm_M} {d mc ms c0 s0 pc : Nat} {L : List (Option Value)} {st : List Value} {n : Nat} {w : Nat → va_E} {Q : Option Value → Nat → (Nat → va_E) → Prop}
/-- the locals, said otherwise -/
theorem pm_l {L' : List (Option Value)} (h : L = L') (kk : pm_X gs ro M d mc ms c0 s0 pc L' st n w Q) : pm_X gs ro M d mc ms c0 s0 pc L st n w Q := h ▸ kk
end PML
