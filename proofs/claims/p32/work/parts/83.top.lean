/-! FROM THE STATEMENT'S START TO THE LAW'S WALK (wip/gen/top.py) -/
theorem eq_ev {args : Array Value} {s : State} {tm : Term} {z : Int32} (h : (Cond.eq tm (.int z)).before args s = true) : tm.eval args s none [] s = some (.int z) := by
  cases hv : tm.eval args s none [] s with
  | none => simp [Cond.before, Cond.holds, Cond.value, hv] at h
  | some w =>
    have hz : (Term.int z).eval args s none [] s = some (.int z) := rfl
    simp only [Cond.before, Cond.holds, Cond.value, hv, hz] at h
    cases w <;> simp_all
theorem top_arr {args : Array Value} {s : State} {ty : FieldType} (h : (Cond.arrayClass ty).before args s = true) : ∃ cA, ArrOfT s cA ty ∧ s.vm.findClass ("[" ++ ty.toString) = some cA := by
  obtain ⟨c, k, comp, h1, h2, h3⟩ := Cond.arrayClass_spec h
  exact ⟨c, fun N z => ⟨(fun k h => by cases h), k, h2, comp, h3⟩, h1⟩
theorem top_arrR {args : Array Value} {s : State} {C : String} (h : (Cond.arrayOver (.object C)).before args s = true) : ∃ cA, ArrOfT s cA (.object C) ∧ va_RA s cA (.object C) := by
  obtain ⟨comp, c, k, h1, h2, h3, h4, h5⟩ := Cond.arrayOver_spec h
  exact ⟨c, fun N z => ⟨(fun k h => by cases h), k, h3, comp, h4⟩, k, comp, h3, h4, h1, h5⟩
theorem top_arrA {args : Array Value} {s : State} {t : FieldType} (h : (Cond.arrayOver (.array t)).before args s = true) : ∃ cA, ArrOfT s cA (.array t) ∧ s.vm.findClass ("[" ++ (FieldType.array t).toString) = some cA := by
  obtain ⟨comp, c, k, h1, h2, h3, h4, h5⟩ := Jvm.Stand.arrayOver_specB h
  exact ⟨c, fun N z => ⟨(fun k h => by cases h), k, h3, comp, h4⟩, h5⟩
set_option maxHeartbeats 4000000 in
theorem top_K {args : Array Value} {s : State} (hts : ∀ w ∈ lw_tbl, w.before args s = true) : ∃ D cA, va_K D vwCl (pm_tys cA) s := by
  have htg : ∀ w ∈ lw_g, w.before args s = true := fun w h => hts w (List.mem_filter.mp h).1
  obtain ⟨c0, i0, h0⟩ := u_known (C := RX0) (T := TX0) (N := 6) (n := 6) htg cl_X0.2.1 (hts (.instantiable RX0 6) (lwt_tables_1_1 (List.mem_of_getElem? (i := 69) rfl)))
  obtain ⟨c1, i1, h1⟩ := u_known (C := RX1) (T := TX1) (N := 4) (n := 4) htg cl_X1.2.1 (hts (.instantiable RX1 4) (lwt_tables_1_1 (List.mem_of_getElem? (i := 178) rfl)))
  obtain ⟨c2, i2, h2⟩ := u_known (C := RX2) (T := TX2) (N := 5) (n := 5) htg cl_X2.2.1 (hts (.instantiable RX2 5) (lwt_tables_1_1 (List.mem_of_getElem? (i := 200) rfl)))
  obtain ⟨c3, i3, h3⟩ := u_known (C := RX3) (T := TX3) (N := 6) (n := 6) htg cl_X3.2.1 (hts (.instantiable RX3 6) (lwt_tables_1_1 (List.mem_of_getElem? (i := 105) rfl)))
  obtain ⟨c4, i4, h4⟩ := u_known (C := RX4) (T := TX4) (N := 4) (n := 4) htg cl_X4.2.1 (hts (.instantiable RX4 4) (lwt_tables_1_1 (List.mem_of_getElem? (i := 47) rfl)))
  obtain ⟨c5, i5, h5⟩ := u_known (C := RX5) (T := TX5) (N := 4) (n := 4) htg cl_X5.2.1 (hts (.instantiable RX5 4) (lwt_tables_1_1 (List.mem_of_getElem? (i := 24) rfl)))
  obtain ⟨c6, i6, h6⟩ := u_known (C := RX6) (T := TX6) (N := 12) (n := 12) htg cl_X6.2.1 (hts (.instantiable RX6 12) (lwt_tables_1_1 (List.mem_of_getElem? (i := 133) rfl)))
  obtain ⟨c7, i7, h7⟩ := u_known (C := RX7) (T := TX7) (N := 15) (n := 15) htg cl_X7.2.1 (hts (.instantiable RX7 15) (lwt_tables_1_1 (List.mem_of_getElem? (i := 97) rfl)))
  obtain ⟨c8, i8, h8⟩ := u_known (C := RX9) (T := TX9) (N := 14) (n := 14) htg cl_X9.2.1 (hts (.instantiable RX9 14) (lwt_tables_1_1 (List.mem_of_getElem? (i := 16) rfl)))
  obtain ⟨c9, i9, h9⟩ := u_known (C := RX10) (T := TX10) (N := 55) (n := 55) htg cl_X10.2.1 (hts (.instantiable RX10 55) (lwt_tables_1_5 (List.mem_of_getElem? (i := 40) rfl)))
  obtain ⟨a0, A0, B0⟩ := top_arr (htg _ ac_int)
  obtain ⟨a1, A1, B1⟩ := top_arr (htg _ ac_boolean)
  obtain ⟨a2, A2, B2⟩ := top_arrR (hts _ ao_Run)
  obtain ⟨a3, A3, B3⟩ := top_arrA (hts _ ao_ii)
  refine ⟨(fun k => [c0, c1, c2, c3, c4, c5, c6, c7, c8, c9].getD k c0, fun k => [i0, i1, i2, i3, i4, i5, i6, i7, i8, i9].getD k i0), fun k => [a0, a1, a2, a3].getD k a0, ?_, ?_⟩
  · intro k q hq
    match k, hq with
    | 0, hq => cases hq; exact h0
    | 1, hq => cases hq; exact h1
    | 2, hq => cases hq; exact h2
    | 3, hq => cases hq; exact h3
    | 4, hq => cases hq; exact h4
    | 5, hq => cases hq; exact h5
    | 6, hq => cases hq; exact h6
    | 7, hq => cases hq; exact h7
    | 8, hq => cases hq; exact h8
    | 9, hq => cases hq; exact h9
    | k + 10, hq => simp [vwCl] at hq
  · intro k q hq
    match k, hq with
    | 0, hq => cases hq; exact ⟨A0, B0⟩
    | 1, hq => cases hq; exact ⟨A1, B1⟩
    | 2, hq => cases hq; exact ⟨A2, B2⟩
    | 3, hq => cases hq; exact ⟨A3, B3⟩
    | k + 4, hq => simp [pm_tys] at hq
theorem top_N {args : Array Value} {s : State} (hts : ∀ w ∈ lw_tbl, w.before args s = true) : pm_N s := ⟨fun own idx y host h => va_Nw.of rfl (hts _ h), fun C h => va_AO.of (hts _ h), fun h => hts _ h⟩
theorem top_A {b : Nat} {s : State} (hts : ∀ w ∈ lw_tbl, w.before #[Value.ref b] s = true) (hg : (Jvm.Cond.and given_1 narrow_1).before #[Value.ref b] s = true) : ∃ t : Nat, va_Z "RunsBack" "ASKS_OF_A" "[I" (.ref t) (fun q => s.heap.size ≤ q) s s.heap ∧ va_T .int t 23 (fun i => .int (askA i)) (fun q => s.heap.size ≤ q) s s.heap := by
  have hs := flat_of_before _ hg
  have hA : ∀ a : Nat, a < s.heap.size → ¬ (fun q => s.heap.size ≤ q) a := fun a h => Nat.not_le.mpr h
  have hel : ∀ j : Nat, j < 23 → (Term.elem (.static "RunsBack" "ASKS_OF_A" "[I") (.int (Int32.ofNat j))).eval #[Value.ref b] s none [] s = some (.int (askA j)) := by
    intro j hj
    match j, hj with
    | 0, _ => exact eq_ev (hs (Cond.eq (.elem (.static "RunsBack" "ASKS_OF_A" "[I") (.int 0)) (.int (askA 0))) (by decide +kernel))
    | 1, _ => exact eq_ev (hs (Cond.eq (.elem (.static "RunsBack" "ASKS_OF_A" "[I") (.int 1)) (.int (askA 1))) (by decide +kernel))
    | 2, _ => exact eq_ev (hs (Cond.eq (.elem (.static "RunsBack" "ASKS_OF_A" "[I") (.int 2)) (.int (askA 2))) (by decide +kernel))
    | 3, _ => exact eq_ev (hs (Cond.eq (.elem (.static "RunsBack" "ASKS_OF_A" "[I") (.int 3)) (.int (askA 3))) (by decide +kernel))
    | 4, _ => exact eq_ev (hs (Cond.eq (.elem (.static "RunsBack" "ASKS_OF_A" "[I") (.int 4)) (.int (askA 4))) (by decide +kernel))
    | 5, _ => exact eq_ev (hs (Cond.eq (.elem (.static "RunsBack" "ASKS_OF_A" "[I") (.int 5)) (.int (askA 5))) (by decide +kernel))
    | 6, _ => exact eq_ev (hs (Cond.eq (.elem (.static "RunsBack" "ASKS_OF_A" "[I") (.int 6)) (.int (askA 6))) (by decide +kernel))
    | 7, _ => exact eq_ev (hs (Cond.eq (.elem (.static "RunsBack" "ASKS_OF_A" "[I") (.int 7)) (.int (askA 7))) (by decide +kernel))
    | 8, _ => exact eq_ev (hs (Cond.eq (.elem (.static "RunsBack" "ASKS_OF_A" "[I") (.int 8)) (.int (askA 8))) (by decide +kernel))
    | 9, _ => exact eq_ev (hs (Cond.eq (.elem (.static "RunsBack" "ASKS_OF_A" "[I") (.int 9)) (.int (askA 9))) (by decide +kernel))
    | 10, _ => exact eq_ev (hs (Cond.eq (.elem (.static "RunsBack" "ASKS_OF_A" "[I") (.int 10)) (.int (askA 10))) (by decide +kernel))
    | 11, _ => exact eq_ev (hs (Cond.eq (.elem (.static "RunsBack" "ASKS_OF_A" "[I") (.int 11)) (.int (askA 11))) (by decide +kernel))
    | 12, _ => exact eq_ev (hs (Cond.eq (.elem (.static "RunsBack" "ASKS_OF_A" "[I") (.int 12)) (.int (askA 12))) (by decide +kernel))
    | 13, _ => exact eq_ev (hs (Cond.eq (.elem (.static "RunsBack" "ASKS_OF_A" "[I") (.int 13)) (.int (askA 13))) (by decide +kernel))
    | 14, _ => exact eq_ev (hs (Cond.eq (.elem (.static "RunsBack" "ASKS_OF_A" "[I") (.int 14)) (.int (askA 14))) (by decide +kernel))
    | 15, _ => exact eq_ev (hs (Cond.eq (.elem (.static "RunsBack" "ASKS_OF_A" "[I") (.int 15)) (.int (askA 15))) (by decide +kernel))
    | 16, _ => exact eq_ev (hs (Cond.eq (.elem (.static "RunsBack" "ASKS_OF_A" "[I") (.int 16)) (.int (askA 16))) (by decide +kernel))
    | 17, _ => exact eq_ev (hs (Cond.eq (.elem (.static "RunsBack" "ASKS_OF_A" "[I") (.int 17)) (.int (askA 17))) (by decide +kernel))
    | 18, _ => exact eq_ev (hs (Cond.eq (.elem (.static "RunsBack" "ASKS_OF_A" "[I") (.int 18)) (.int (askA 18))) (by decide +kernel))
    | 19, _ => exact eq_ev (hs (Cond.eq (.elem (.static "RunsBack" "ASKS_OF_A" "[I") (.int 19)) (.int (askA 19))) (by decide +kernel))
    | 20, _ => exact eq_ev (hs (Cond.eq (.elem (.static "RunsBack" "ASKS_OF_A" "[I") (.int 20)) (.int (askA 20))) (by decide +kernel))
    | 21, _ => exact eq_ev (hs (Cond.eq (.elem (.static "RunsBack" "ASKS_OF_A" "[I") (.int 21)) (.int (askA 21))) (by decide +kernel))
    | 22, _ => exact eq_ev (hs (Cond.eq (.elem (.static "RunsBack" "ASKS_OF_A" "[I") (.int 22)) (.int (askA 22))) (by decide +kernel))
    | j + 23, hj => omega
  obtain ⟨t, h1, h2⟩ := va_Tof (tm := .static "RunsBack" "ASKS_OF_A" "[I") (ty := .int) (N := 23) (f := fun i => .int (askA i)) (by decide) (hs _ (by decide +kernel)) (eq_ev (hs (Cond.eq (.length (.static "RunsBack" "ASKS_OF_A" "[I")) (.int 23)) (by decide +kernel))) hel hA
  exact ⟨t, va_Zof (hts (.laysStatic "RunsBack" "ASKS_OF_A" "[I") (lwt_tables_1_2 (List.mem_of_getElem? (i := 103) rfl))) (hts (.initialized "RunsBack") (List.mem_filter.mp nw_L_7.2.2).1) h1 hA, h2⟩
theorem top_B {b : Nat} {s : State} (hts : ∀ w ∈ lw_tbl, w.before #[Value.ref b] s = true) (hg : (Jvm.Cond.and given_1 narrow_1).before #[Value.ref b] s = true) : ∃ t : Nat, va_Z "RunsBack" "ASKS_OF_B" "[I" (.ref t) (fun q => s.heap.size ≤ q) s s.heap ∧ va_T .int t 23 (fun i => .int (askB i)) (fun q => s.heap.size ≤ q) s s.heap := by
  have hs := flat_of_before _ hg
  have hA : ∀ a : Nat, a < s.heap.size → ¬ (fun q => s.heap.size ≤ q) a := fun a h => Nat.not_le.mpr h
  have hel : ∀ j : Nat, j < 23 → (Term.elem (.static "RunsBack" "ASKS_OF_B" "[I") (.int (Int32.ofNat j))).eval #[Value.ref b] s none [] s = some (.int (askB j)) := by
    intro j hj
    match j, hj with
    | 0, _ => exact eq_ev (hs (Cond.eq (.elem (.static "RunsBack" "ASKS_OF_B" "[I") (.int 0)) (.int (askB 0))) (by decide +kernel))
    | 1, _ => exact eq_ev (hs (Cond.eq (.elem (.static "RunsBack" "ASKS_OF_B" "[I") (.int 1)) (.int (askB 1))) (by decide +kernel))
    | 2, _ => exact eq_ev (hs (Cond.eq (.elem (.static "RunsBack" "ASKS_OF_B" "[I") (.int 2)) (.int (askB 2))) (by decide +kernel))
    | 3, _ => exact eq_ev (hs (Cond.eq (.elem (.static "RunsBack" "ASKS_OF_B" "[I") (.int 3)) (.int (askB 3))) (by decide +kernel))
    | 4, _ => exact eq_ev (hs (Cond.eq (.elem (.static "RunsBack" "ASKS_OF_B" "[I") (.int 4)) (.int (askB 4))) (by decide +kernel))
    | 5, _ => exact eq_ev (hs (Cond.eq (.elem (.static "RunsBack" "ASKS_OF_B" "[I") (.int 5)) (.int (askB 5))) (by decide +kernel))
    | 6, _ => exact eq_ev (hs (Cond.eq (.elem (.static "RunsBack" "ASKS_OF_B" "[I") (.int 6)) (.int (askB 6))) (by decide +kernel))
    | 7, _ => exact eq_ev (hs (Cond.eq (.elem (.static "RunsBack" "ASKS_OF_B" "[I") (.int 7)) (.int (askB 7))) (by decide +kernel))
    | 8, _ => exact eq_ev (hs (Cond.eq (.elem (.static "RunsBack" "ASKS_OF_B" "[I") (.int 8)) (.int (askB 8))) (by decide +kernel))
    | 9, _ => exact eq_ev (hs (Cond.eq (.elem (.static "RunsBack" "ASKS_OF_B" "[I") (.int 9)) (.int (askB 9))) (by decide +kernel))
    | 10, _ => exact eq_ev (hs (Cond.eq (.elem (.static "RunsBack" "ASKS_OF_B" "[I") (.int 10)) (.int (askB 10))) (by decide +kernel))
    | 11, _ => exact eq_ev (hs (Cond.eq (.elem (.static "RunsBack" "ASKS_OF_B" "[I") (.int 11)) (.int (askB 11))) (by decide +kernel))
    | 12, _ => exact eq_ev (hs (Cond.eq (.elem (.static "RunsBack" "ASKS_OF_B" "[I") (.int 12)) (.int (askB 12))) (by decide +kernel))
    | 13, _ => exact eq_ev (hs (Cond.eq (.elem (.static "RunsBack" "ASKS_OF_B" "[I") (.int 13)) (.int (askB 13))) (by decide +kernel))
    | 14, _ => exact eq_ev (hs (Cond.eq (.elem (.static "RunsBack" "ASKS_OF_B" "[I") (.int 14)) (.int (askB 14))) (by decide +kernel))
    | 15, _ => exact eq_ev (hs (Cond.eq (.elem (.static "RunsBack" "ASKS_OF_B" "[I") (.int 15)) (.int (askB 15))) (by decide +kernel))
    | 16, _ => exact eq_ev (hs (Cond.eq (.elem (.static "RunsBack" "ASKS_OF_B" "[I") (.int 16)) (.int (askB 16))) (by decide +kernel))
    | 17, _ => exact eq_ev (hs (Cond.eq (.elem (.static "RunsBack" "ASKS_OF_B" "[I") (.int 17)) (.int (askB 17))) (by decide +kernel))
    | 18, _ => exact eq_ev (hs (Cond.eq (.elem (.static "RunsBack" "ASKS_OF_B" "[I") (.int 18)) (.int (askB 18))) (by decide +kernel))
    | 19, _ => exact eq_ev (hs (Cond.eq (.elem (.static "RunsBack" "ASKS_OF_B" "[I") (.int 19)) (.int (askB 19))) (by decide +kernel))
    | 20, _ => exact eq_ev (hs (Cond.eq (.elem (.static "RunsBack" "ASKS_OF_B" "[I") (.int 20)) (.int (askB 20))) (by decide +kernel))
    | 21, _ => exact eq_ev (hs (Cond.eq (.elem (.static "RunsBack" "ASKS_OF_B" "[I") (.int 21)) (.int (askB 21))) (by decide +kernel))
    | 22, _ => exact eq_ev (hs (Cond.eq (.elem (.static "RunsBack" "ASKS_OF_B" "[I") (.int 22)) (.int (askB 22))) (by decide +kernel))
    | j + 23, hj => omega
  obtain ⟨t, h1, h2⟩ := va_Tof (tm := .static "RunsBack" "ASKS_OF_B" "[I") (ty := .int) (N := 23) (f := fun i => .int (askB i)) (by decide) (hs _ (by decide +kernel)) (eq_ev (hs (Cond.eq (.length (.static "RunsBack" "ASKS_OF_B" "[I")) (.int 23)) (by decide +kernel))) hel hA
  exact ⟨t, va_Zof (hts (.laysStatic "RunsBack" "ASKS_OF_B" "[I") (lwt_tables_1_2 (List.mem_of_getElem? (i := 105) rfl))) (hts (.initialized "RunsBack") (List.mem_filter.mp nw_L_7.2.2).1) h1 hA, h2⟩
theorem top_C {b : Nat} {s : State} (hts : ∀ w ∈ lw_tbl, w.before #[Value.ref b] s = true) (hg : (Jvm.Cond.and given_1 narrow_1).before #[Value.ref b] s = true) : ∃ t : Nat, va_Z "RunsBack" "ASKS_OF_C" "[I" (.ref t) (fun q => s.heap.size ≤ q) s s.heap ∧ va_T .int t 23 (fun i => .int (askC i)) (fun q => s.heap.size ≤ q) s s.heap := by
  have hs := flat_of_before _ hg
  have hA : ∀ a : Nat, a < s.heap.size → ¬ (fun q => s.heap.size ≤ q) a := fun a h => Nat.not_le.mpr h
  have hel : ∀ j : Nat, j < 23 → (Term.elem (.static "RunsBack" "ASKS_OF_C" "[I") (.int (Int32.ofNat j))).eval #[Value.ref b] s none [] s = some (.int (askC j)) := by
    intro j hj
    match j, hj with
    | 0, _ => exact eq_ev (hs (Cond.eq (.elem (.static "RunsBack" "ASKS_OF_C" "[I") (.int 0)) (.int (askC 0))) (by decide +kernel))
    | 1, _ => exact eq_ev (hs (Cond.eq (.elem (.static "RunsBack" "ASKS_OF_C" "[I") (.int 1)) (.int (askC 1))) (by decide +kernel))
    | 2, _ => exact eq_ev (hs (Cond.eq (.elem (.static "RunsBack" "ASKS_OF_C" "[I") (.int 2)) (.int (askC 2))) (by decide +kernel))
    | 3, _ => exact eq_ev (hs (Cond.eq (.elem (.static "RunsBack" "ASKS_OF_C" "[I") (.int 3)) (.int (askC 3))) (by decide +kernel))
    | 4, _ => exact eq_ev (hs (Cond.eq (.elem (.static "RunsBack" "ASKS_OF_C" "[I") (.int 4)) (.int (askC 4))) (by decide +kernel))
    | 5, _ => exact eq_ev (hs (Cond.eq (.elem (.static "RunsBack" "ASKS_OF_C" "[I") (.int 5)) (.int (askC 5))) (by decide +kernel))
    | 6, _ => exact eq_ev (hs (Cond.eq (.elem (.static "RunsBack" "ASKS_OF_C" "[I") (.int 6)) (.int (askC 6))) (by decide +kernel))
    | 7, _ => exact eq_ev (hs (Cond.eq (.elem (.static "RunsBack" "ASKS_OF_C" "[I") (.int 7)) (.int (askC 7))) (by decide +kernel))
    | 8, _ => exact eq_ev (hs (Cond.eq (.elem (.static "RunsBack" "ASKS_OF_C" "[I") (.int 8)) (.int (askC 8))) (by decide +kernel))
    | 9, _ => exact eq_ev (hs (Cond.eq (.elem (.static "RunsBack" "ASKS_OF_C" "[I") (.int 9)) (.int (askC 9))) (by decide +kernel))
    | 10, _ => exact eq_ev (hs (Cond.eq (.elem (.static "RunsBack" "ASKS_OF_C" "[I") (.int 10)) (.int (askC 10))) (by decide +kernel))
    | 11, _ => exact eq_ev (hs (Cond.eq (.elem (.static "RunsBack" "ASKS_OF_C" "[I") (.int 11)) (.int (askC 11))) (by decide +kernel))
    | 12, _ => exact eq_ev (hs (Cond.eq (.elem (.static "RunsBack" "ASKS_OF_C" "[I") (.int 12)) (.int (askC 12))) (by decide +kernel))
    | 13, _ => exact eq_ev (hs (Cond.eq (.elem (.static "RunsBack" "ASKS_OF_C" "[I") (.int 13)) (.int (askC 13))) (by decide +kernel))
    | 14, _ => exact eq_ev (hs (Cond.eq (.elem (.static "RunsBack" "ASKS_OF_C" "[I") (.int 14)) (.int (askC 14))) (by decide +kernel))
    | 15, _ => exact eq_ev (hs (Cond.eq (.elem (.static "RunsBack" "ASKS_OF_C" "[I") (.int 15)) (.int (askC 15))) (by decide +kernel))
    | 16, _ => exact eq_ev (hs (Cond.eq (.elem (.static "RunsBack" "ASKS_OF_C" "[I") (.int 16)) (.int (askC 16))) (by decide +kernel))
    | 17, _ => exact eq_ev (hs (Cond.eq (.elem (.static "RunsBack" "ASKS_OF_C" "[I") (.int 17)) (.int (askC 17))) (by decide +kernel))
    | 18, _ => exact eq_ev (hs (Cond.eq (.elem (.static "RunsBack" "ASKS_OF_C" "[I") (.int 18)) (.int (askC 18))) (by decide +kernel))
    | 19, _ => exact eq_ev (hs (Cond.eq (.elem (.static "RunsBack" "ASKS_OF_C" "[I") (.int 19)) (.int (askC 19))) (by decide +kernel))
    | 20, _ => exact eq_ev (hs (Cond.eq (.elem (.static "RunsBack" "ASKS_OF_C" "[I") (.int 20)) (.int (askC 20))) (by decide +kernel))
    | 21, _ => exact eq_ev (hs (Cond.eq (.elem (.static "RunsBack" "ASKS_OF_C" "[I") (.int 21)) (.int (askC 21))) (by decide +kernel))
    | 22, _ => exact eq_ev (hs (Cond.eq (.elem (.static "RunsBack" "ASKS_OF_C" "[I") (.int 22)) (.int (askC 22))) (by decide +kernel))
    | j + 23, hj => omega
  obtain ⟨t, h1, h2⟩ := va_Tof (tm := .static "RunsBack" "ASKS_OF_C" "[I") (ty := .int) (N := 23) (f := fun i => .int (askC i)) (by decide) (hs _ (by decide +kernel)) (eq_ev (hs (Cond.eq (.length (.static "RunsBack" "ASKS_OF_C" "[I")) (.int 23)) (by decide +kernel))) hel hA
  exact ⟨t, va_Zof (hts (.laysStatic "RunsBack" "ASKS_OF_C" "[I") (lwt_tables_1_2 (List.mem_of_getElem? (i := 107) rfl))) (hts (.initialized "RunsBack") (List.mem_filter.mp nw_L_7.2.2).1) h1 hA, h2⟩
set_option maxHeartbeats 4000000 in
theorem whole_from {p : Program} {e : Env} {s : State} {m : MethodId} {below : List Frame} {meth : Method} {c : Code} (l : Launch) {b L : Nat} {xs : Nat → Int32} (hLb : L < 2 ^ 31)
    (hx : p.tables.exec = Jvm.exec) (hb : c.code = code) (hr : meth.sig.returnType = ret) (hml : c.maxLocals = maxLocals) (hown : s.vm.findClass R_law = some m.cls) (hts : ∀ w ∈ lw_tbl, w.before #[Value.ref b] s = true) (hX : va_X b L xs s s.heap) (hbl : b < s.heap.size) (hlk : meth.locks = false) (hg : (Jvm.Cond.and given_1 narrow_1).before #[Value.ref b] s = true)
    (hlaw : ∀ w0, pm_X gs_L (ro_L L xs) M_L_law 13 600000 7302250 0 0 0 [some (.ref 2000000), none, none, none] [] 0 w0 (fun r _ _ => r = some (.int 1))) :
    W p l e room_1 s m #[Value.ref b] below meth c s.heap [] 0 0 (fun t => ∃ o, t.status = .running ∧ Ended t below o ∧ o = .returned (some (.int 1)) ∧ Framed s o t [] room_1.cells room_1.slots) (entryFrame m ([Value.ref b] : List Value).toArray maxLocals) := by
  obtain ⟨D, cA, hK⟩ := top_K hts
  obtain ⟨ta, za, Ta⟩ := top_A hts hg
  obtain ⟨tb, zb, Tb⟩ := top_B hts hg
  obtain ⟨tc, zc, Tc⟩ := top_C hts hg
  refine pm_top l hx hb hr hml hown hts hlk hK (top_N hts) (d := 13) (by decide) (by decide) rfl rfl (fun k => if k = 1000000 then ta else if k = 1000001 then tb else if k = 1000002 then tc else b) rfl (gs := gs_L) (ro := ro_L L xs) ?_ ?_ (fun _ => .inr (0, [])) (L := [some (.ref 2000000), none, none, none]) rfl (hlaw _)
  · intro k N f hk
    unfold ro_L at hk
    by_cases h1 : k = 1000000
    · subst h1; rw [if_pos rfl] at hk; cases hk; exact ⟨by decide, Ta⟩
    rw [if_neg h1] at hk
    by_cases h2 : k = 1000001
    · subst h2; rw [if_pos rfl] at hk; cases hk; exact ⟨by decide, Tb⟩
    rw [if_neg h2] at hk
    by_cases h3 : k = 1000002
    · subst h3; rw [if_pos rfl] at hk; cases hk; exact ⟨by decide, Tc⟩
    rw [if_neg h3] at hk
    by_cases h4 : k = 2000000
    · subst h4; rw [if_pos rfl] at hk; cases hk
      obtain ⟨scr, x1, x2, x3, x4, x5⟩ := hX
      exact ⟨by decide, scr, x1, x2, x3, Nat.le_of_eq x4.symm, by rw [x4], x5, Nat.not_le.mpr hbl⟩
    · rw [if_neg h4] at hk; cases hk
  · intro j nm hj
    match j, hj with
    | 0, hj => cases hj; exact za
    | 1, hj => cases hj; exact zb
    | 2, hj => cases hj; exact zc
    | j + 3, hj => simp [gs_L] at hj
