/-! PURE FUNCTIONS OUT OF BYTECODE (wip/gen/decomp.py): the words they are made of, and the rows by which the machine is shown to do what they say -/
def ob {α β : Type} (x : Option α) (f : α → Option β) : Option β := match x with
  | none => none
  | some y => f y
theorem ob_some {α β : Type} {x : Option α} {f : α → Option β} {z : β} (h : ob x f = some z) : ∃ y, x = some y ∧ f y = some z := by
  cases x with
  | none => exact absurd h (by simp [ob])
  | some y => exact ⟨y, rfl, h⟩
def om {α β : Type} (x : Option α) (a : Option β) (f : α → Option β) : Option β := match x with
  | none => a
  | some y => f y
theorem om_n {α β : Type} {x : Option α} {a : Option β} {f : α → Option β} {z : Option β} (hx : x = none) (h : om x a f = z) : a = z := by subst hx; exact h
theorem om_s {α β : Type} {x : Option α} {a : Option β} {f : α → Option β} {y : α} {z : Option β} (hx : x = some y) (h : om x a f = z) : f y = z := by subst hx; exact h
def ck {α : Type} (p : Prop) [Decidable p] (a : Option α) : Option α := if p then a else none
theorem ck_some {α : Type} {p : Prop} [Decidable p] {a : Option α} {z : α} (h : ck p a = some z) : p ∧ a = some z := by
  unfold ck at h
  by_cases q : p
  · rw [if_pos q] at h; exact ⟨q, h⟩
  · rw [if_neg q] at h; cases h
def lt1 {α β : Type} (x : α) (f : α → β) : β := f x
theorem lt1_ex {α β : Type} {x : α} {f : α → β} {z : β} (h : lt1 x f = z) : ∃ y, y = x ∧ f y = z := ⟨x, rfl, h⟩
def os {α β γ : Type} (x : α ⊕ β) (f : α → γ) (g : β → γ) : γ := match x with
  | .inl a => f a
  | .inr c => g c
theorem os_l {α β γ : Type} {a : α} {f : α → γ} {g : β → γ} {z : γ} (h : os (.inl a) f g = z) : f a = z := h
theorem os_r {α β γ : Type} {a : β} {f : α → γ} {g : β → γ} {z : γ} (h : os (.inr a) f g = z) : g a = z := h
theorem it_t {α : Type} {p : Prop} [Decidable p] {a c z : α} (q : p) (h : (if p then a else c) = z) : a = z := by rw [if_pos q] at h; exact h
theorem it_f {α : Type} {p : Prop} [Decidable p] {a c z : α} (q : ¬ p) (h : (if p then a else c) = z) : c = z := by rw [if_neg q] at h; exact h
theorem it_b {p : Prop} [Decidable p] {a c : Int32} (ha : a = 0 ∨ a = 1) (hc : c = 0 ∨ c = 1) : (if p then a else c) = 0 ∨ (if p then a else c) = 1 := by
  by_cases q : p
  · rw [if_pos q]; exact ha
  · rw [if_neg q]; exact hc
/-- a loop: its body gives the next state, or what it ends with -/
def lp {σ ρ : Type} (body : σ → Option (σ ⊕ ρ)) : Nat → σ → Option ρ
  | 0, _ => none
  | f + 1, s => match body s with
    | none => none
    | some (.inl s') => lp body f s'
    | some (.inr r) => some r
theorem lp_sound {σ ρ : Type} {body : σ → Option (σ ⊕ ρ)} {P : σ → Prop} {E : ρ → Prop} (hb : ∀ s x, body s = some x → (∀ s', x = .inl s' → P s') → (∀ r, x = .inr r → E r) → P s) : ∀ (f : Nat) (s : σ) (r : ρ), lp body f s = some r → E r → P s
  | 0, s, r, h, _ => by cases h
  | f + 1, s, r, h, hE => by
    unfold lp at h
    cases hx : body s with
    | none => rw [hx] at h; cases h
    | some x =>
      rw [hx] at h
      cases x with
      | inl s' => exact hb s _ hx (fun s1 q => by cases q; exact lp_sound hb f s' r h hE) (fun r1 q => by cases q)
      | inr r1 => exact hb s _ hx (fun s1 q => by cases q) (fun r2 q => by cases q; cases h; exact hE)
abbrev inb (i : Int32) (N : Nat) : Prop := 0 ≤ i.toInt ∧ i.toInt < (N : Int)
abbrev imax (x y : Int32) : Int32 := if x < y then y else x
abbrev imin (x y : Int32) : Int32 := if y < x then y else x
abbrev dx_rem (x y : Int32) : Int32 := x - x / y * y
abbrev dx_shl (x y : Int32) : Int32 := x <<< (y &&& 31)
abbrev dx_shr (x y : Int32) : Int32 := x >>> (y &&& 31)
abbrev dx_ushr (x y : Int32) : Int32 := (x.toUInt32 >>> (y.toUInt32 &&& Int32.toUInt32 31)).toInt32
def rF (u : rg_U) (j s : Nat) : Int32 := u.1 (100 * j + s)
def sF (u : rg_U) (j s : Nat) (v : Int32) : rg_U := rg_F u (100 * j + s) v
def rA (u : rg_U) (j : Nat) (i : Int32) : Int32 := u.2.1 j i.toNatClampNeg
def sA (u : rg_U) (j : Nat) (i v : Int32) : rg_U := rg_R u j i.toNatClampNeg v
def sZ (u : rg_U) (j : Nat) (i v : Int32) : rg_U := rg_R u j i.toNatClampNeg (vp_nar .boolean v)
def rG (u : rg_U) (j s : Nat) : Option Nat := u.2.2.1 (100 * j + s)
def sG (u : rg_U) (j s : Nat) (r : Option Nat) : rg_U := rg_G u (100 * j + s) r
def rQ (u : rg_U) (j : Nat) (i : Int32) : Option Nat := u.2.2.2 j i.toNatClampNeg
abbrev cpok (sp dp k : Int32) (N0 N1 : Nat) : Prop := (¬ sp < 0 ∧ ¬ dp < 0 ∧ ¬ k < 0) ∧ sp.toNatClampNeg + k.toNatClampNeg ≤ N0 ∧ dp.toNatClampNeg + k.toNatClampNeg ≤ N1
def sC (u : rg_U) (j0 j1 : Nat) (sp dp k : Int32) : rg_U := (u.1, va_up u.2.1 j1 (va_cpy (u.2.1 j0) (u.2.1 j1) sp.toNatClampNeg dp.toNatClampNeg k.toNatClampNeg), u.2.2)
/-- locals that say no more -/
def lw (L L' : List (Option Value)) : Prop := match L, L' with
  | _, [] => True
  | [], y :: ys => y = none ∧ lw [] ys
  | x :: xs, y :: ys => (y = none ∨ y = x) ∧ lw xs ys
theorem lw_get : ∀ (L L' : List (Option Value)) (i : Nat) (v : Value), lw L L' → L'[i]? = some (some v) → L[i]? = some (some v)
  | _, [], i, v, _, h => by simp at h
  | [], y :: ys, 0, v, hl, h => by
    have hl : y = none ∧ lw [] ys := by unfold lw at hl; exact hl
    simp at h; rw [hl.1] at h; cases h
  | [], y :: ys, i + 1, v, hl, h => by
    have hl : y = none ∧ lw [] ys := by unfold lw at hl; exact hl
    have := lw_get [] ys i v hl.2 (by simpa using h)
    simp at this
  | x :: xs, y :: ys, 0, v, hl, h => by
    have hl : (y = none ∨ y = x) ∧ lw xs ys := by unfold lw at hl; exact hl
    simp at h ⊢
    rcases hl.1 with q | q
    · rw [q] at h; cases h
    · rw [← q]; exact h
  | x :: xs, y :: ys, i + 1, v, hl, h => by
    have hl : (y = none ∨ y = x) ∧ lw xs ys := by unfold lw at hl; exact hl
    have := lw_get xs ys i v hl.2 (by simpa using h)
    simpa using this
section DXR
variable {gs : List String} {ro roc : pm_RO} {M Mc : pm_M} {d dc mc ms c0 s0 pc : Nat} {L : List (Option Value)} {st As : List Value} {n : Nat} {w w0 : Nat → va_E} {Q Qc : Option Value → Nat → (Nat → va_E) → Prop} {sh : List rg_S} {b : Nat} {u u' : rg_U}
theorem pm_lw {L' : List (Option Value)} (hl : lw L L') (kk : pm_X gs ro M d mc ms c0 s0 pc L' st n w Q) : pm_X gs ro M d mc ms c0 s0 pc L st n w Q := by
  intro p l e s m args below meth c H locs ls D cA ad ad0 n0 A F G LL SS
  exact kk p l e s m args below meth c H locs ls D cA ad ad0 n0 A F G ⟨LL.1, LL.2.1, fun i v h => LL.2.2 i v (lw_get L L' i v hl h)⟩ SS
theorem dx_gi {idx ci k j : Nat} {ty : FieldType} {fin : Bool} {t : List Nat} (hR : rg sh b u n w) (h : decode M.2.1 pc = .ok (.getfield idx, 3)) (hf : pm_fl M.1.cls idx ci k ty fin) (hx : sh[j]? = some (.inl (ci, t))) (ht : t[k]? = some 0) (kk : pm_X gs ro M d mc ms c0 s0 (pc + 3) L (.int (rF u j k) :: st) n w Q) : pm_X gs ro M d mc ms c0 s0 pc L (.ref (b + j) :: st) n w Q := rg_gi hR h hf hx ht kk
theorem dx_gr {idx ci k j o : Nat} {ty : FieldType} {fin : Bool} {t : List Nat} (hR : rg sh b u n w) (h : decode M.2.1 pc = .ok (.getfield idx, 3)) (hf : pm_fl M.1.cls idx ci k ty fin) (hx : sh[j]? = some (.inl (ci, t))) (ht : t[k]? = some (o + 2)) (kk : pm_X gs ro M d mc ms c0 s0 (pc + 3) L (.ref (b + o) :: st) n w Q) : pm_X gs ro M d mc ms c0 s0 pc L (.ref (b + j) :: st) n w Q := rg_gr hR h hf hx ht kk
theorem dx_ggN {idx ci k j : Nat} {ty : FieldType} {fin : Bool} {t : List Nat} (hR : rg sh b u n w) (h : decode M.2.1 pc = .ok (.getfield idx, 3)) (hf : pm_fl M.1.cls idx ci k ty fin) (hx : sh[j]? = some (.inl (ci, t))) (ht : t[k]? = some 1) (hq : rG u j k = none) (kk : pm_X gs ro M d mc ms c0 s0 (pc + 3) L (.null :: st) n w Q) : pm_X gs ro M d mc ms c0 s0 pc L (.ref (b + j) :: st) n w Q := by
  refine pm_get h hf (rg_lt hR hx) (hR.2.2 j _ hx) (v := .null) ?_ kk
  rw [rg_fs_get ht]
  show some (va_rf ((rG u j k).map _)) = _
  rw [hq]; rfl
theorem dx_ggS {idx ci k j o : Nat} {ty : FieldType} {fin : Bool} {t : List Nat} (hR : rg sh b u n w) (h : decode M.2.1 pc = .ok (.getfield idx, 3)) (hf : pm_fl M.1.cls idx ci k ty fin) (hx : sh[j]? = some (.inl (ci, t))) (ht : t[k]? = some 1) (hq : rG u j k = some o) (kk : pm_X gs ro M d mc ms c0 s0 (pc + 3) L (.ref (b + o) :: st) n w Q) : pm_X gs ro M d mc ms c0 s0 pc L (.ref (b + j) :: st) n w Q := by
  refine pm_get h hf (rg_lt hR hx) (hR.2.2 j _ hx) (v := .ref (b + o)) ?_ kk
  rw [rg_fs_get ht]
  show some (va_rf ((rG u j k).map _)) = _
  rw [hq]; rfl
theorem dx_pi {idx ci k j : Nat} {t : List Nat} {v : Int32} (hR : rg sh b u n w) (hk : rg_k b sh.length w0 w) (h : decode M.2.1 pc = .ok (.putfield idx, 3)) (hf : pm_fl M.1.cls idx ci k .int false) (hx : sh[j]? = some (.inl (ci, t))) (ht : t[k]? = some 0) (hu : u' = sF u j k v) (kk : ∀ w', rg sh b u' n w' → rg_k b sh.length w0 w' → pm_X gs ro M d mc ms c0 s0 (pc + 3) L st n w' Q) : pm_X gs ro M d mc ms c0 s0 pc L (.int v :: .ref (b + j) :: st) n w Q := by
  subst hu
  exact rg_pi hR h hf hx ht (fun w' h1 h2 => kk w' h1 (rg_kt hk h2))
theorem rg_fs_putG {j s : Nat} {t : List Nat} {o : Nat} (h : t[s]? = some 1) (hl : t.length ≤ 100) : (rg_fs b u j t).set s (.ref (b + o)) = rg_fs b (sG u j s (some o)) j t := by
  have hs := (List.getElem?_eq_some_iff.mp h).1
  apply List.ext_getElem?
  intro i
  rw [List.getElem?_set, rg_fs_len]
  by_cases hi : s = i
  · subst hi
    rw [if_pos rfl, if_pos hs, rg_fs_get h]
    show _ = some (va_rf ((va_up u.2.2.1 (100 * j + s) (some o) (100 * j + s)).map (fun k => b + k)))
    rw [pm_up_s]; rfl
  · rw [if_neg hi]
    by_cases hi2 : i < t.length
    · rw [rg_fs_get (List.getElem?_eq_getElem hi2), rg_fs_get (List.getElem?_eq_getElem hi2)]
      cases t[i] with
      | zero => rfl
      | succ k =>
        cases k with
        | zero =>
          show some (va_rf ((u.2.2.1 _).map _)) = some (va_rf ((va_up u.2.2.1 (100 * j + s) (some o) _).map _))
          rw [pm_up_n (by omega)]
        | succ k => rfl
    · rw [List.getElem?_eq_none_iff.mpr (by rw [rg_fs_len]; omega), List.getElem?_eq_none_iff.mpr (by rw [rg_fs_len]; omega)]
theorem rg_e_G {j j' s : Nat} {r : Option Nat} {x : rg_S} (hs : s < 100) (hx : ∀ ci t, x = .inl (ci, t) → t.length ≤ 100) (hj : j' ≠ j) : rg_e b (sG u j s r) j' x = rg_e b u j' x := by
  rcases x with ⟨ci, t⟩ | ⟨tag, N⟩ | ⟨tag, N⟩
  · have hl := hx ci t rfl
    show Sum.inr (ci, rg_fs b (sG u j s r) j' t) = Sum.inr (ci, rg_fs b u j' t)
    congr 2
    apply List.map_congr_left
    intro i hi
    have hi := List.mem_range.mp hi
    cases t.getD i 0 with
    | zero => rfl
    | succ k =>
      cases k with
      | zero =>
        show va_rf ((va_up u.2.2.1 (100 * j + s) r _).map _) = va_rf ((u.2.2.1 _).map _)
        rw [pm_up_n (by omega)]
      | succ k => rfl
  · rfl
  · rfl
theorem rg_putG {j ci s : Nat} {t : List Nat} {o : Nat} (h : rg sh b u n w) (hx : sh[j]? = some (.inl (ci, t))) (ht : t[s]? = some 1) : rg sh b (sG u j s (some o)) n (va_up w (b + j) (.inr (ci, (rg_fs b u j t).set s (.ref (b + o))))) := by
  have hl := rg_t h.1 hx
  have hs := (List.getElem?_eq_some_iff.mp ht).1
  refine ⟨h.1, h.2.1, fun j' x hx' => ?_⟩
  by_cases hj : j' = j
  · subst hj
    rw [pm_up_s]
    rw [hx] at hx'
    cases hx'
    rw [rg_fs_putG ht hl]
    rfl
  · rw [pm_up_n (by omega), h.2.2 j' x hx', rg_e_G (by omega) (fun ci t q => by subst q; exact rg_t h.1 hx') hj]
theorem dx_pg {idx ci k j o : Nat} {C : String} {t : List Nat} (hR : rg sh b u n w) (hk : rg_k b sh.length w0 w) (h : decode M.2.1 pc = .ok (.putfield idx, 3)) (hf : pm_fl M.1.cls idx ci k (.object C) false) (hx : sh[j]? = some (.inl (ci, t))) (ht : t[k]? = some 1) (hu : u' = sG u j k (some o)) (kk : ∀ w', rg sh b u' n w' → rg_k b sh.length w0 w' → pm_X gs ro M d mc ms c0 s0 (pc + 3) L st n w' Q) : pm_X gs ro M d mc ms c0 s0 pc L (.ref (b + o) :: .ref (b + j) :: st) n w Q := by
  subst hu
  exact pm_put h hf (rg_lt hR hx) (hR.2.2 j _ hx) (by rw [rg_fs_len]; exact (List.getElem?_eq_some_iff.mp ht).1) (fun _ => rfl) (fun _ => rfl) (kk _ (rg_putG hR hx ht) (rg_kt hk (rg_ku (List.getElem?_eq_some_iff.mp hx).1)))
theorem dx_al {j N : Nat} {i : Int32} (hR : rg sh b u n w) (h : decode M.2.1 pc = .ok (.iaload, 1)) (hx : sh[j]? = some (.inr (.inl (0, N)))) (hi : vp_in i N) (kk : pm_X gs ro M d mc ms c0 s0 (pc + 1) L (.int (rA u j i) :: st) n w Q) : pm_X gs ro M d mc ms c0 s0 pc L (.int i :: .ref (b + j) :: st) n w Q := rg_al hR h hx hi kk
theorem dx_zl {j N : Nat} {i : Int32} (hR : rg sh b u n w) (h : decode M.2.1 pc = .ok (.baload, 1)) (hx : sh[j]? = some (.inr (.inl (1, N)))) (hi : vp_in i N) (kk : pm_X gs ro M d mc ms c0 s0 (pc + 1) L (.int (rA u j i) :: st) n w Q) : pm_X gs ro M d mc ms c0 s0 pc L (.int i :: .ref (b + j) :: st) n w Q := rg_zl hR h hx hi kk
theorem dx_as {j N : Nat} {i v : Int32} (hR : rg sh b u n w) (hk : rg_k b sh.length w0 w) (h : decode M.2.1 pc = .ok (.iastore, 1)) (hx : sh[j]? = some (.inr (.inl (0, N)))) (hi : vp_in i N) (hu : u' = sA u j i v) (kk : ∀ w', rg sh b u' n w' → rg_k b sh.length w0 w' → pm_X gs ro M d mc ms c0 s0 (pc + 1) L st n w' Q) : pm_X gs ro M d mc ms c0 s0 pc L (.int v :: .int i :: .ref (b + j) :: st) n w Q := by
  subst hu
  exact rg_as hR h hx hi (fun w' h1 h2 => kk w' h1 (rg_kt hk h2))
theorem dx_zs {j N : Nat} {i v : Int32} (hR : rg sh b u n w) (hk : rg_k b sh.length w0 w) (h : decode M.2.1 pc = .ok (.bastore, 1)) (hx : sh[j]? = some (.inr (.inl (1, N)))) (hi : vp_in i N) (hu : u' = sZ u j i v) (kk : ∀ w', rg sh b u' n w' → rg_k b sh.length w0 w' → pm_X gs ro M d mc ms c0 s0 (pc + 1) L st n w' Q) : pm_X gs ro M d mc ms c0 s0 pc L (.int v :: .int i :: .ref (b + j) :: st) n w Q := by
  subst hu
  exact rg_zs hR h hx hi (fun w' h1 h2 => kk w' h1 (rg_kt hk h2))
theorem dx_len {j tag N : Nat} {v : Int32} (hR : rg sh b u n w) (h : decode M.2.1 pc = .ok (.arraylength, 1)) (hx : sh[j]? = some (.inr (.inl (tag, N)))) (hv : Int32.ofNat N = v) (ht : tag < 4) (kk : pm_X gs ro M d mc ms c0 s0 (pc + 1) L (.int v :: st) n w Q) : pm_X gs ro M d mc ms c0 s0 pc L (.ref (b + j) :: st) n w Q :=
  pm_alen h (rg_lt hR hx) (hR.2.2 j _ hx) ht hv kk
theorem dx_qlN {j N : Nat} {i : Int32} (hR : rg sh b u n w) (h : decode M.2.1 pc = .ok (.aaload, 1)) (hx : sh[j]? = some (.inr (.inr (2, N)))) (hi : vp_in i N) (hq : rQ u j i = none) (kk : pm_X gs ro M d mc ms c0 s0 (pc + 1) L (.null :: st) n w Q) : pm_X gs ro M d mc ms c0 s0 pc L (.int i :: .ref (b + j) :: st) n w Q :=
  pm_aldq h (rg_lt hR hx) (hR.2.2 j _ hx) hi (v := .null) (by show va_rf ((rQ u j i).map _) = _; rw [hq]; rfl) kk
theorem dx_qlS {j N o : Nat} {i : Int32} (hR : rg sh b u n w) (h : decode M.2.1 pc = .ok (.aaload, 1)) (hx : sh[j]? = some (.inr (.inr (2, N)))) (hi : vp_in i N) (hq : rQ u j i = some o) (kk : pm_X gs ro M d mc ms c0 s0 (pc + 1) L (.ref (b + o) :: st) n w Q) : pm_X gs ro M d mc ms c0 s0 pc L (.int i :: .ref (b + j) :: st) n w Q :=
  pm_aldq h (rg_lt hR hx) (hR.2.2 j _ hx) hi (v := .ref (b + o)) (by show va_rf ((rQ u j i).map _) = _; rw [hq]; rfl) kk
theorem pm_cp {idx a0 a1 N0 N1 : Nat} {f g : Nat → Int32} {sp dp k : Int32} (h : decode M.2.1 pc = .ok (.invokestatic idx, 3)) (h1 : Cond.methodLink M.1.cls idx arraycopyName ∈ lw_g) (h2 : Cond.native arraycopyName ∈ lw_g) (h3 : Cond.static arraycopyName ∈ lw_g) (h4 : Cond.initialized "java/lang/System" ∈ lw_g) (hd : 1 ≤ d) (hst : (st.map fun v => v.category).sum ≤ 8) (ha0 : a0 < n) (hw0 : w a0 = .inl (0, N0, .inl f)) (ha1 : a1 < n) (hw1 : w a1 = .inl (0, N1, .inl g)) (hc : cpok sp dp k N0 N1) (kk : pm_X gs ro M d mc ms c0 s0 (pc + 3) L st n (va_up w a1 (.inl (0, N1, .inl (va_cpy f g sp.toNatClampNeg dp.toNatClampNeg k.toNatClampNeg)))) Q) : pm_X gs ro M d mc ms c0 s0 pc L (.int k :: .int dp :: .ref a1 :: .int sp :: .ref a0 :: st) n w Q := by
  intro p l e s m args below meth c H locs ls D cA ad ad0 n0 A F G LL SS
  have hts := F.2.2.2.2.2.2.2.1
  have hr := pm_lvroom (m := m) (pc := pc) (ls := ls) (ad := ad) (st0 := st.map (pm_v ad)) hst
  refine va_copyi (D := D) F.1 F.2.1 (F.2.2.1.trans LL.1.symm) F.2.2.2.2.2.2.1 (pm_hts hts h1) (pm_hts hts h2) (pm_hts hts h3) (pm_hts hts h4) F.2.2.2.2.2.2.2.2.1 G.1 G.2.1 G.2.2.1 a0 a1 0 0 (c0 := cA 0) (c1 := cA 0) (n0 := N0) (n1 := N1) (f := f) (g := g) (ty := .int) ?_ ?_ rfl rfl rfl hc.1.1 hc.1.2.1 hc.1.2.2 hc.2.1 hc.2.2 (fun _ _ => rfl) hd ?_ h (fun H1 locs1 hP hD hS => ?_)
  · rw [pm_W_get ha0, hw0]; rfl
  · rw [pm_W_get ha1, hw1]; rfl
  · have e1 : nativeFrameWords "java/lang/System" "arraycopy" 5 = 7 := by decide +kernel
    rw [e1]
    show _ ≤ 40 * d
    omega
  · have e1 := pm_W_set (cA := cA) (ad := ad) (n := n) (k := a1) (w := w) (.inl (0, N1, .inl (va_cpy f g sp.toNatClampNeg dp.toNatClampNeg k.toNatClampNeg)))
    have hP : va_P D vwCl (pm_W cA ad n (va_up w a1 (.inl (0, N1, .inl (va_cpy f g sp.toNatClampNeg dp.toNatClampNeg k.toNatClampNeg))))) H1 := e1 ▸ hP
    have hD : va_D A (pm_W cA ad n (va_up w a1 (.inl (0, N1, .inl (va_cpy f g sp.toNatClampNeg dp.toNatClampNeg k.toNatClampNeg))))) := e1 ▸ hD
    exact kk p l e s m args below meth c H1 locs1 ls D cA ad ad0 n0 A F ⟨hP, hD, hS, G.2.2.2.1, G.2.2.2.2.1, G.2.2.2.2.2.1, pm_wku G.2.2.2.2.2.2 pm_eki⟩ LL (pm_St (pm_St (pm_St (pm_St (pm_St SS)))))
theorem rg_putC {j0 j1 N1 : Nat} {sp dp k : Int32} (h : rg sh b u n w) (hx : sh[j1]? = some (.inr (.inl (0, N1)))) : rg sh b (sC u j0 j1 sp dp k) n (va_up w (b + j1) (.inl (0, N1, .inl (va_cpy (u.2.1 j0) (u.2.1 j1) sp.toNatClampNeg dp.toNatClampNeg k.toNatClampNeg)))) := by
  refine ⟨h.1, h.2.1, fun j' x hx' => ?_⟩
  by_cases hj : j' = j1
  · subst hj
    rw [pm_up_s]
    rw [hx] at hx'
    cases hx'
    show _ = Sum.inl (0, N1, Sum.inl (va_up u.2.1 j' _ j'))
    rw [pm_up_s]
  · rw [pm_up_n (by omega), h.2.2 j' x hx']
    rcases x with ⟨ci, t⟩ | ⟨tag, N⟩ | ⟨tag, N⟩
    · rfl
    · show _ = Sum.inl (tag, N, Sum.inl (va_up u.2.1 j1 _ j'))
      rw [pm_up_n hj]
      rfl
    · rfl
theorem dx_cp {idx j0 j1 N0 N1 : Nat} {sp dp k : Int32} (hR : rg sh b u n w) (hk : rg_k b sh.length w0 w) (h : decode M.2.1 pc = .ok (.invokestatic idx, 3)) (h1 : Cond.methodLink M.1.cls idx arraycopyName ∈ lw_g) (h2 : Cond.native arraycopyName ∈ lw_g) (h3 : Cond.static arraycopyName ∈ lw_g) (h4 : Cond.initialized "java/lang/System" ∈ lw_g) (hd : 1 ≤ d) (hst : (st.map fun v => v.category).sum ≤ 8) (hx0 : sh[j0]? = some (.inr (.inl (0, N0)))) (hx1 : sh[j1]? = some (.inr (.inl (0, N1)))) (hc : cpok sp dp k N0 N1) (hu : u' = sC u j0 j1 sp dp k) (kk : ∀ w', rg sh b u' n w' → rg_k b sh.length w0 w' → pm_X gs ro M d mc ms c0 s0 (pc + 3) L st n w' Q) : pm_X gs ro M d mc ms c0 s0 pc L (.int k :: .int dp :: .ref (b + j1) :: .int sp :: .ref (b + j0) :: st) n w Q := by
  subst hu
  exact pm_cp h h1 h2 h3 h4 hd hst (rg_lt hR hx0) (hR.2.2 j0 _ hx0) (rg_lt hR hx1) (hR.2.2 j1 _ hx1) hc (kk _ (rg_putC hR hx1) (rg_kt hk (rg_ku (List.getElem?_eq_some_iff.mp hx1).1)))
theorem pm_ald2 {a N : Nat} {g : Nat → Option Nat} {i : Int32} {v : Value} (h : decode M.2.1 pc = .ok (.aaload, 1)) (ha : a < n) (hw : w a = .inl (3, N, .inr (.inr (.inr (.inr g))))) (hi : vp_in i N) (hv : va_rf (g i.toNatClampNeg) = v) (kk : pm_X gs ro M d mc ms c0 s0 (pc + 1) L (v :: st) n w Q) : pm_X gs ro M d mc ms c0 s0 pc L (.int i :: .ref a :: st) n w Q := by
  subst hv
  intro p l e s m args below meth c H locs ls D cA ad ad0 n0 A F G LL SS
  have hok : pm_ok n (va_rf (g i.toNatClampNeg)) := by
    cases hg : g i.toNatClampNeg with
    | none => exact pm_okn
    | some k => exact pm_okr ((G.2.2.2.2.2.2 a ha).1 3 N g hw _ k hg)
  have K := kk p l e s m args below meth c H locs ls D cA ad ad0 n0 A F G LL (pm_Sc hok (pm_St (pm_St SS)))
  have hlt : i.toNatClampNeg < N := Nat.not_le.mp fun q => hi (Or.inr q)
  have hcell := G.1 a (ad a, pm_e cA ad (.inl (3, N, .inr (.inr (.inr (.inr g)))))) (by rw [pm_W_get ha, hw])
  refine W.aald (v := va_rf ((g i.toNatClampNeg).map ad)) (ty := .array .int) F.1 F.2.1 hcell ((F.2.2.2.2.2.2.2.2.1.2 3 (cA 3, .array .int) rfl).1 N (fun j => va_rf ((g j).map ad))) rfl (fun q => by cases q) (by show ¬ (i < 0 ∨ (arrV _ _ _).slots.size ≤ _); rw [arrV_size]; exact hi) (by show (arrV _ _ _).slots[_]? = _; rw [arrV_read _ _ hlt]) rfl rfl h ?_
  have e1 : pm_v ad (va_rf (g i.toNatClampNeg)) = va_rf ((g i.toNatClampNeg).map ad) := by cases g i.toNatClampNeg <;> rfl
  rw [← e1]
  exact K
theorem dx_rlS {j N o : Nat} {i : Int32} (hR : rg sh b u n w) (h : decode M.2.1 pc = .ok (.aaload, 1)) (hx : sh[j]? = some (.inr (.inr (3, N)))) (hi : vp_in i N) (hq : rQ u j i = some o) (kk : pm_X gs ro M d mc ms c0 s0 (pc + 1) L (.ref (b + o) :: st) n w Q) : pm_X gs ro M d mc ms c0 s0 pc L (.int i :: .ref (b + j) :: st) n w Q :=
  pm_ald2 h (rg_lt hR hx) (hR.2.2 j _ hx) hi (v := .ref (b + o)) (by show va_rf ((rQ u j i).map _) = _; rw [hq]; rfl) kk
/-! calls: p: nothing is changed; i: an int comes back, the region has other numbers; v: nothing comes back -/
theorem dx_cVp {idx j ci : Nat} {t : List Nat} {v : Value} (hR : rg sh b u n w) (h : decode M.2.1 pc = .ok (.invokevirtual idx, 3)) (hl : pm_lV M.1.cls idx Mc As.length) (hcl : ∃ T N, vwCl[ci]? = some (Mc.1.cls, T, N)) (hx : sh[j]? = some (.inl (ci, t))) (hd : dc + 1 ≤ d) (hst : (st.map fun v => v.category).sum ≤ 8) {st0 : List Value} (hst0 : As.reverse ++ .ref (b + j) :: st = st0) (hM : pm_Met gs ro Mc dc 0 0 (.ref (b + j) :: As) n w (pm_p n w (some v))) (kk : pm_X gs ro M d 0 0 0 0 (pc + 3) L (v :: st) n w Q) : pm_X gs ro M d 0 0 0 0 pc L st0 n w Q :=
  pm_callV h hl hcl (rg_lt hR hx) (hR.2.2 j _ hx) (fun _ _ q => q) hd (Nat.le_refl _) (Nat.le_refl _) hst hst0 hM (fun r n1 w1 hq _ => by obtain ⟨rfl, rfl, rfl⟩ := hq; exact kk)
theorem dx_cVi {idx j ci : Nat} {t : List Nat} {v : Value} (hR : rg sh b u n w) (hk : rg_k b sh.length w0 w) (h : decode M.2.1 pc = .ok (.invokevirtual idx, 3)) (hl : pm_lV M.1.cls idx Mc As.length) (hcl : ∃ T N, vwCl[ci]? = some (Mc.1.cls, T, N)) (hx : sh[j]? = some (.inl (ci, t))) (hd : dc + 1 ≤ d) (hst : (st.map fun v => v.category).sum ≤ 8) {st0 : List Value} (hst0 : As.reverse ++ .ref (b + j) :: st = st0) (hM : pm_Met gs ro Mc dc 0 0 (.ref (b + j) :: As) n w (rg_post sh b n w (some v) u')) (kk : ∀ w', rg sh b u' n w' → rg_k b sh.length w0 w' → pm_X gs ro M d 0 0 0 0 (pc + 3) L (v :: st) n w' Q) : pm_X gs ro M d 0 0 0 0 pc L st0 n w Q :=
  pm_callV h hl hcl (rg_lt hR hx) (hR.2.2 j _ hx) (fun _ _ q => q) hd (Nat.le_refl _) (Nat.le_refl _) hst hst0 hM (fun r n1 w1 hq _ => by obtain ⟨rfl, rfl, h1, h2⟩ := hq; exact kk w1 h1 (rg_kt hk h2))
theorem dx_cVv {idx j ci : Nat} {t : List Nat} (hR : rg sh b u n w) (hk : rg_k b sh.length w0 w) (h : decode M.2.1 pc = .ok (.invokevirtual idx, 3)) (hl : pm_lV M.1.cls idx Mc As.length) (hcl : ∃ T N, vwCl[ci]? = some (Mc.1.cls, T, N)) (hx : sh[j]? = some (.inl (ci, t))) (hd : dc + 1 ≤ d) (hst : (st.map fun v => v.category).sum ≤ 8) {st0 : List Value} (hst0 : As.reverse ++ .ref (b + j) :: st = st0) (hM : pm_Met gs ro Mc dc 0 0 (.ref (b + j) :: As) n w (rg_post sh b n w none u')) (kk : ∀ w', rg sh b u' n w' → rg_k b sh.length w0 w' → pm_X gs ro M d 0 0 0 0 (pc + 3) L st n w' Q) : pm_X gs ro M d 0 0 0 0 pc L st0 n w Q :=
  pm_callV h hl hcl (rg_lt hR hx) (hR.2.2 j _ hx) (fun _ _ q => q) hd (Nat.le_refl _) (Nat.le_refl _) hst hst0 hM (fun r n1 w1 hq _ => by obtain ⟨rfl, rfl, h1, h2⟩ := hq; exact kk w1 h1 (rg_kt hk h2))
theorem dx_cVNp {idx j ci : Nat} {t : List Nat} {host : String} {v : Value} (hR : rg sh b u n w) (h : decode M.2.1 pc = .ok (.invokevirtual idx, 3)) (hl : pm_nV M.1.cls idx Mc host As.length) (hcl : ∃ T N, vwCl[ci]? = some (Mc.1.cls, T, N)) (hx : sh[j]? = some (.inl (ci, t))) (hd : dc + 1 ≤ d) (hst : (st.map fun v => v.category).sum ≤ 8) {st0 : List Value} (hst0 : As.reverse ++ .ref (b + j) :: st = st0) (hM : pm_Met gs ro Mc dc 0 0 (.ref (b + j) :: As) n w (pm_p n w (some v))) (kk : pm_X gs ro M d 0 0 0 0 (pc + 3) L (v :: st) n w Q) : pm_X gs ro M d 0 0 0 0 pc L st0 n w Q :=
  pm_callVN h hl hcl (rg_lt hR hx) (hR.2.2 j _ hx) (fun _ _ q => q) hd (Nat.le_refl _) (Nat.le_refl _) hst hst0 hM (fun r n1 w1 hq _ => by obtain ⟨rfl, rfl, rfl⟩ := hq; exact kk)
theorem dx_cVNi {idx j ci : Nat} {t : List Nat} {host : String} {v : Value} (hR : rg sh b u n w) (hk : rg_k b sh.length w0 w) (h : decode M.2.1 pc = .ok (.invokevirtual idx, 3)) (hl : pm_nV M.1.cls idx Mc host As.length) (hcl : ∃ T N, vwCl[ci]? = some (Mc.1.cls, T, N)) (hx : sh[j]? = some (.inl (ci, t))) (hd : dc + 1 ≤ d) (hst : (st.map fun v => v.category).sum ≤ 8) {st0 : List Value} (hst0 : As.reverse ++ .ref (b + j) :: st = st0) (hM : pm_Met gs ro Mc dc 0 0 (.ref (b + j) :: As) n w (rg_post sh b n w (some v) u')) (kk : ∀ w', rg sh b u' n w' → rg_k b sh.length w0 w' → pm_X gs ro M d 0 0 0 0 (pc + 3) L (v :: st) n w' Q) : pm_X gs ro M d 0 0 0 0 pc L st0 n w Q :=
  pm_callVN h hl hcl (rg_lt hR hx) (hR.2.2 j _ hx) (fun _ _ q => q) hd (Nat.le_refl _) (Nat.le_refl _) hst hst0 hM (fun r n1 w1 hq _ => by obtain ⟨rfl, rfl, h1, h2⟩ := hq; exact kk w1 h1 (rg_kt hk h2))
theorem dx_cVNv {idx j ci : Nat} {t : List Nat} {host : String} (hR : rg sh b u n w) (hk : rg_k b sh.length w0 w) (h : decode M.2.1 pc = .ok (.invokevirtual idx, 3)) (hl : pm_nV M.1.cls idx Mc host As.length) (hcl : ∃ T N, vwCl[ci]? = some (Mc.1.cls, T, N)) (hx : sh[j]? = some (.inl (ci, t))) (hd : dc + 1 ≤ d) (hst : (st.map fun v => v.category).sum ≤ 8) {st0 : List Value} (hst0 : As.reverse ++ .ref (b + j) :: st = st0) (hM : pm_Met gs ro Mc dc 0 0 (.ref (b + j) :: As) n w (rg_post sh b n w none u')) (kk : ∀ w', rg sh b u' n w' → rg_k b sh.length w0 w' → pm_X gs ro M d 0 0 0 0 (pc + 3) L st n w' Q) : pm_X gs ro M d 0 0 0 0 pc L st0 n w Q :=
  pm_callVN h hl hcl (rg_lt hR hx) (hR.2.2 j _ hx) (fun _ _ q => q) hd (Nat.le_refl _) (Nat.le_refl _) hst hst0 hM (fun r n1 w1 hq _ => by obtain ⟨rfl, rfl, h1, h2⟩ := hq; exact kk w1 h1 (rg_kt hk h2))
theorem dx_cSp {idx : Nat} {v : Value} (h : decode M.2.1 pc = .ok (.invokestatic idx, 3)) (hl : pm_lS M.1.cls idx Mc As.length) (hd : dc + 1 ≤ d) (hst : (st.map fun v => v.category).sum ≤ 8) {st0 : List Value} (hst0 : As.reverse ++ st = st0) (hM : pm_Met gs ro Mc dc 0 0 (As) n w (pm_p n w (some v))) (kk : pm_X gs ro M d 0 0 0 0 (pc + 3) L (v :: st) n w Q) : pm_X gs ro M d 0 0 0 0 pc L st0 n w Q :=
  pm_callS h hl (fun _ _ q => q) hd (Nat.le_refl _) (Nat.le_refl _) hst hst0 hM (fun r n1 w1 hq _ => by obtain ⟨rfl, rfl, rfl⟩ := hq; exact kk)
theorem dx_cSi {idx : Nat} {v : Value} (hk : rg_k b sh.length w0 w) (h : decode M.2.1 pc = .ok (.invokestatic idx, 3)) (hl : pm_lS M.1.cls idx Mc As.length) (hd : dc + 1 ≤ d) (hst : (st.map fun v => v.category).sum ≤ 8) {st0 : List Value} (hst0 : As.reverse ++ st = st0) (hM : pm_Met gs ro Mc dc 0 0 (As) n w (rg_post sh b n w (some v) u')) (kk : ∀ w', rg sh b u' n w' → rg_k b sh.length w0 w' → pm_X gs ro M d 0 0 0 0 (pc + 3) L (v :: st) n w' Q) : pm_X gs ro M d 0 0 0 0 pc L st0 n w Q :=
  pm_callS h hl (fun _ _ q => q) hd (Nat.le_refl _) (Nat.le_refl _) hst hst0 hM (fun r n1 w1 hq _ => by obtain ⟨rfl, rfl, h1, h2⟩ := hq; exact kk w1 h1 (rg_kt hk h2))
theorem dx_cSv {idx : Nat} (hk : rg_k b sh.length w0 w) (h : decode M.2.1 pc = .ok (.invokestatic idx, 3)) (hl : pm_lS M.1.cls idx Mc As.length) (hd : dc + 1 ≤ d) (hst : (st.map fun v => v.category).sum ≤ 8) {st0 : List Value} (hst0 : As.reverse ++ st = st0) (hM : pm_Met gs ro Mc dc 0 0 (As) n w (rg_post sh b n w none u')) (kk : ∀ w', rg sh b u' n w' → rg_k b sh.length w0 w' → pm_X gs ro M d 0 0 0 0 (pc + 3) L st n w' Q) : pm_X gs ro M d 0 0 0 0 pc L st0 n w Q :=
  pm_callS h hl (fun _ _ q => q) hd (Nat.le_refl _) (Nat.le_refl _) hst hst0 hM (fun r n1 w1 hq _ => by obtain ⟨rfl, rfl, h1, h2⟩ := hq; exact kk w1 h1 (rg_kt hk h2))
theorem dx_cSNp {idx : Nat} {host : String} {v : Value} (h : decode M.2.1 pc = .ok (.invokestatic idx, 3)) (hl : pm_nS M.1.cls idx Mc host As.length) (hd : dc + 1 ≤ d) (hst : (st.map fun v => v.category).sum ≤ 8) {st0 : List Value} (hst0 : As.reverse ++ st = st0) (hM : pm_Met gs ro Mc dc 0 0 (As) n w (pm_p n w (some v))) (kk : pm_X gs ro M d 0 0 0 0 (pc + 3) L (v :: st) n w Q) : pm_X gs ro M d 0 0 0 0 pc L st0 n w Q :=
  pm_callSN h hl (fun _ _ q => q) hd (Nat.le_refl _) (Nat.le_refl _) hst hst0 hM (fun r n1 w1 hq _ => by obtain ⟨rfl, rfl, rfl⟩ := hq; exact kk)
theorem dx_cSNi {idx : Nat} {host : String} {v : Value} (hk : rg_k b sh.length w0 w) (h : decode M.2.1 pc = .ok (.invokestatic idx, 3)) (hl : pm_nS M.1.cls idx Mc host As.length) (hd : dc + 1 ≤ d) (hst : (st.map fun v => v.category).sum ≤ 8) {st0 : List Value} (hst0 : As.reverse ++ st = st0) (hM : pm_Met gs ro Mc dc 0 0 (As) n w (rg_post sh b n w (some v) u')) (kk : ∀ w', rg sh b u' n w' → rg_k b sh.length w0 w' → pm_X gs ro M d 0 0 0 0 (pc + 3) L (v :: st) n w' Q) : pm_X gs ro M d 0 0 0 0 pc L st0 n w Q :=
  pm_callSN h hl (fun _ _ q => q) hd (Nat.le_refl _) (Nat.le_refl _) hst hst0 hM (fun r n1 w1 hq _ => by obtain ⟨rfl, rfl, h1, h2⟩ := hq; exact kk w1 h1 (rg_kt hk h2))
theorem dx_cSNv {idx : Nat} {host : String} (hk : rg_k b sh.length w0 w) (h : decode M.2.1 pc = .ok (.invokestatic idx, 3)) (hl : pm_nS M.1.cls idx Mc host As.length) (hd : dc + 1 ≤ d) (hst : (st.map fun v => v.category).sum ≤ 8) {st0 : List Value} (hst0 : As.reverse ++ st = st0) (hM : pm_Met gs ro Mc dc 0 0 (As) n w (rg_post sh b n w none u')) (kk : ∀ w', rg sh b u' n w' → rg_k b sh.length w0 w' → pm_X gs ro M d 0 0 0 0 (pc + 3) L st n w' Q) : pm_X gs ro M d 0 0 0 0 pc L st0 n w Q :=
  pm_callSN h hl (fun _ _ q => q) hd (Nat.le_refl _) (Nat.le_refl _) hst hst0 hM (fun r n1 w1 hq _ => by obtain ⟨rfl, rfl, h1, h2⟩ := hq; exact kk w1 h1 (rg_kt hk h2))
end DXR
