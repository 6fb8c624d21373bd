/-- a method: its name, its bytes, its locals, what it returns -/
abbrev pm_M : Type := MethodName × ByteArray × Nat × Option FieldType
/-- the tables' words that stay true while the machine warms up; the others (nest mates, arrays of references) are kept as facts: pm_N -/
def lw_g : List Cond := lw_tbl.filter goodWord
abbrev pm_ws (M : pm_M) : List Cond := .code M.1 M.2.1 M.2.2.1 M.2.2.2 :: lw_g
def pm_N (U : State) : Prop := (∀ own idx y host, Cond.methodLinkNest own idx y host ∈ lw_tbl → va_Nw (.methodLinkNest own idx y host) U) ∧ (∀ C, Cond.arrayOver (.object C) ∈ lw_tbl → va_AO C U) ∧ (Cond.arrayOver (.array .int) ∈ lw_tbl → (Cond.arrayOver (.array .int)).before #[] U = true)
def pm_rm (d mc ms : Nat) : Room := { frames := d, cells := mc, slots := ms, locals := 40 * d }
def pm_tys (cA : Nat → ClassId) : List (ClassId × FieldType) := [(cA 0, .int), (cA 1, .boolean), (cA 2, .object RX7), (cA 3, .array .int)]
/-- arrays that nobody writes, by their places (1000000 and on): statics, and the script of the law -/
abbrev pm_RO : Type := Nat → Option (Nat × (Nat → Int32))
def pm_R (ro : pm_RO) (ad : Nat → Nat) (A : Nat → Prop) (U : State) : Prop := ∀ k N f, ro k = some (N, f) → 1000000 ≤ k ∧ va_T .int (ad k) N (fun i => .int (f i)) A U U.heap
/-- the static fields of RunsBack that hold such arrays -/
def pm_Z (gs : List String) (ad : Nat → Nat) (A : Nat → Prop) (U : State) : Prop := ∀ (j : Nat) (nm : String), gs[j]? = some nm → va_Z "RunsBack" nm "[I" (.ref (ad (1000000 + j))) A U U.heap
def pm_Q (D : va_G) (cA : Nat → ClassId) (ad0 : Nat → Nat) (n0 : Nat) (A : Nat → Prop) (Q : Option Value → Nat → (Nat → va_E) → Prop) : Array Value → State → Outcome → State → Prop := fun _ st o t =>
  (∃ (r : Option Value) (n' : Nat) (w' : Nat → va_E) (ad' : Nat → Nat), o = .returned (r.map (pm_v ad')) ∧ Q r n' w' ∧ n0 ≤ n' ∧ n' < 1000000 ∧ pm_ag n0 ad0 ad' ∧ pm_wk n' w' ∧ (∀ v, r = some v → pm_ok n' v) ∧ va_P D vwCl (pm_W cA ad' n' w') t.heap ∧ va_K D vwCl (pm_tys cA) t ∧ va_D A (pm_W cA ad' n' w')) ∧ va_F A st t
/-- what stays through a method's walk -/
def pm_F (gs : List String) (ro : pm_RO) (M : pm_M) (p : Program) (s : State) (m : MethodId) (args : Array Value) (meth : Method) (c : Code) (D : va_G) (cA : Nat → ClassId) (ad0 : Nat → Nat) (A : Nat → Prop) : Prop :=
  p.tables.exec = Jvm.exec ∧ c.code = M.2.1 ∧ c.maxLocals = M.2.2.1 ∧ meth.sig.returnType = M.2.2.2 ∧ meth.locks = false ∧ (M.1.name = "<init>" → meth.name = "<init>") ∧ s.vm.findClass M.1.cls = some m.cls ∧ (∀ w ∈ lw_g, w.before args s = true) ∧ va_K D vwCl (pm_tys cA) s ∧ (∀ q, s.heap.size ≤ q → A q) ∧ pm_R ro ad0 A s ∧ pm_Z gs ad0 A s ∧ pm_N s
/-- the heap holds the world -/
def pm_G (s : State) (D : va_G) (cA : Nat → ClassId) (ad0 : Nat → Nat) (n0 : Nat) (A : Nat → Prop) (H : Heap) (locs : List Loc) (ad : Nat → Nat) (n : Nat) (w : Nat → va_E) : Prop :=
  va_P D vwCl (pm_W cA ad n w) H ∧ va_D A (pm_W cA ad n w) ∧ va_S A s.heap H locs ∧ n0 ≤ n ∧ n < 1000000 ∧ pm_ag n0 ad0 ad ∧ pm_wk n w
/-- the locals -/
def pm_L (nL : Nat) (ls : Array Slot) (ad : Nat → Nat) (n : Nat) (L : List (Option Value)) : Prop := ls.size = nL ∧ lv_wf ls ∧ ∀ (i : Nat) (v : Value), L[i]? = some (some v) → ls[i]? = some (Slot.val (pm_v ad v)) ∧ pm_ok n v
def pm_S (n : Nat) (st : List Value) : Prop := ∀ v ∈ st, pm_ok n v
/-- THE JUDGEMENT: method M, at pc, with these locals, this stack, this world: it returns, and Q holds of its answer and the world then. d: how many frames may lie above; mc, ms: cells and slots that it makes at most in all, c0, s0: made already -/
def pm_X (gs : List String) (ro : pm_RO) (M : pm_M) (d mc ms c0 s0 pc : Nat) (L : List (Option Value)) (st : List Value) (n : Nat) (w : Nat → va_E) (Q : Option Value → Nat → (Nat → va_E) → Prop) : Prop :=
  ∀ (p : Program) (l : Launch) (e : Env) (s : State) (m : MethodId) (args : Array Value) (below : List Frame) (meth : Method) (c : Code) (H : Heap) (locs : List Loc) (ls : Array Slot) (D : va_G) (cA : Nat → ClassId) (ad ad0 : Nat → Nat) (n0 : Nat) (A : Nat → Prop),
    pm_F gs ro M p s m args meth c D cA ad0 A → pm_G s D cA ad0 n0 A H locs ad n w → pm_L M.2.2.1 ls ad n L → pm_S n st →
    W p l e (pm_rm d mc ms) s m args below meth c H locs c0 s0 (MQ below (pm_Q D cA ad0 n0 A Q) args s mc ms A) (F0 m pc ls (st.map (pm_v ad)))
theorem pm_S0 {n : Nat} : pm_S n [] := fun v h => by cases h
theorem pm_Sc {n : Nat} {v : Value} {st : List Value} (h : pm_ok n v) (hs : pm_S n st) : pm_S n (v :: st) := fun u hu => by
  rcases List.mem_cons.mp hu with q | q
  · rw [q]; exact h
  · exact hs u q
theorem pm_Si {n : Nat} {x : Int32} {st : List Value} (hs : pm_S n st) : pm_S n (.int x :: st) := pm_Sc pm_oki hs
theorem pm_St {n : Nat} {v : Value} {st : List Value} (hs : pm_S n (v :: st)) : pm_S n st := fun u hu => hs u (List.mem_cons_of_mem _ hu)
theorem pm_Sh {n : Nat} {v : Value} {st : List Value} (hs : pm_S n (v :: st)) : pm_ok n v := hs v List.mem_cons_self
