/-- a class: its number among vwCl, its words in the tables -/
def pm_cl (ci : Nat) (C : String) (T : u_T) (N : Nat) (ty : Nat → FieldType) : Prop := vwCl[ci]? = some (C, T, N) ∧ (∀ w ∈ u_ws C T N, w ∈ lw_g) ∧ (∀ k, k < N → parseFieldDescriptor (T k).2.2.1 = some (ty k)) ∧ ∀ a, a < N → ∀ b, b < N → a ≠ b → (T a).2.1 ≠ (T b).2.1
/-- entry idx of the pool of own: slot k (of type t, final or not) of class ci -/
def pm_fl (own : String) (idx ci k : Nat) (t : FieldType) (fin : Bool) : Prop := ∃ C T N ty, pm_cl ci C T N ty ∧ k < N ∧ Cond.fieldLink own idx (T k).1 (T k).2.1 (T k).2.2.1 ∈ lw_g ∧ ty k = t ∧ (T k).2.2.2 = fin ∧ (T k).1 = C
theorem pm_hts {args : Array Value} {s : State} (h : ∀ w ∈ lw_g, w.before args s = true) {x : Cond} (hx : x ∈ lw_g) : x.before args s = true := h x hx
section PMH
variable {gs : List String} {ro : pm_RO} {M : pm_M} {d mc ms c0 s0 pc : Nat} {L : List (Option Value)} {st : List Value} {n : Nat} {w : Nat → va_E} {Q : Option Value → Nat → (Nat → va_E) → Prop}
theorem pm_get {idx ci k a : Nat} {t : FieldType} {fin : Bool} {fs : List Value} {v : Value} (h : decode M.2.1 pc = .ok (.getfield idx, 3)) (hf : pm_fl M.1.cls idx ci k t fin) (ha : a < n) (hw : w a = .inr (ci, fs)) (hv : fs[k]? = some v) (kk : pm_X gs ro M d mc ms c0 s0 (pc + 3) L (v :: st) n w Q) : pm_X gs ro M d mc ms c0 s0 pc L (.ref a :: st) n w Q := by
  intro p l e s m args below meth c H locs ls D cA ad ad0 n0 A F G LL SS
  obtain ⟨C, T, N, ty, ⟨hc, hin, -, -⟩, hk, hlk, -, -, -⟩ := hf
  have hts := F.2.2.2.2.2.2.2.1
  have hok : pm_ok n v := (G.2.2.2.2.2.2 a ha).2 ci fs hw v (List.mem_of_getElem? hv)
  refine va_get (D := D) (ci := ci) (fs := fs.map (pm_v ad)) (C := C) (T := T) (N := N) F.1 F.2.1 (Ts := lw_g) hts hin F.2.2.2.2.2.2.1 F.2.2.2.2.2.2.2.2.1 G.1 a ?_ hc k hk (pm_hts hts hlk) (fun _ q => q) (v := pm_v ad v) ?_ h (kk p l e s m args below meth c H locs ls D cA ad ad0 n0 A F G LL (pm_Sc hok (pm_St SS)))
  · rw [pm_W_get ha, hw]; rfl
  · rw [List.getElem?_map, hv]; rfl
theorem pm_put {idx ci k a : Nat} {t : FieldType} {fs : List Value} {v : Value} (h : decode M.2.1 pc = .ok (.putfield idx, 3)) (hf : pm_fl M.1.cls idx ci k t false) (ha : a < n) (hw : w a = .inr (ci, fs)) (hl : k < fs.length) (hn : ∀ ad : Nat → Nat, narrow t (pm_v ad v) = pm_v ad v) (hfit : ∀ ad : Nat → Nat, fits t (pm_v ad v) = true) (kk : pm_X gs ro M d mc ms c0 s0 (pc + 3) L st n (va_up w a (.inr (ci, fs.set k v))) Q) : pm_X gs ro M d mc ms c0 s0 pc L (v :: .ref a :: st) n w Q := by
  intro p l e s m args below meth c H locs ls D cA ad ad0 n0 A F G LL SS
  obtain ⟨C, T, N, ty, ⟨hc, hin, hty, hnm⟩, hk, hlk, ht, hfin, hC⟩ := hf
  have hts := F.2.2.2.2.2.2.2.1
  have hwk := G.2.2.2.2.2.2
  have hek : pm_ek n (.inr (ci, fs.set k v)) := pm_eko fun u hu => by
    rcases List.mem_or_eq_of_mem_set hu with q | q
    · exact (hwk a ha).2 ci fs hw u q
    · rw [q]; exact pm_Sh SS
  refine va_put (D := D) (ci := ci) (fs := fs.map (pm_v ad)) (C := C) (T := T) (N := N) F.1 F.2.1 (Ts := lw_g) hts hin ty hty hnm F.2.2.2.2.2.2.1 F.2.2.2.2.2.2.2.2.1 G.1 G.2.1 G.2.2.1 a ?_ hc k hk (pm_hts hts hlk) (fun _ q => q) hfin (ty := t) (v := pm_v ad v) (by rw [hty k hk, ht]) (hn ad) (hfit ad) (by rw [List.length_map]; exact hl) h (fun H1 locs1 hP hD hS => ?_)
  · rw [pm_W_get ha, hw]; rfl
  · have e1 : (pm_W cA ad n w).set a (ad a, .inr (ci, (fs.map (pm_v ad)).set k (pm_v ad v))) = pm_W cA ad n (va_up w a (.inr (ci, fs.set k v))) := by
      rw [← pm_W_set]
      show _ = (pm_W cA ad n w).set a (ad a, .inr (ci, (fs.set k v).map (pm_v ad)))
      rw [List.map_set]
    rw [e1] at hP hD
    exact kk p l e s m args below meth c H1 locs1 ls D cA ad ad0 n0 A F ⟨hP, hD, hS, G.2.2.2.1, G.2.2.2.2.1, G.2.2.2.2.2.1, pm_wku hwk hek⟩ LL (pm_St (pm_St SS))
theorem pm_putF {idx ci k a : Nat} {t : FieldType} {fs : List Value} {v : Value} (h : decode M.2.1 pc = .ok (.putfield idx, 3)) (hf : pm_fl M.1.cls idx ci k t true) (ha : a < n) (hw : w a = .inr (ci, fs)) (hl : k < fs.length) (hi : M.1.name = "<init>") (hown : ∀ r, vwCl[ci]? = some r → r.1 = M.1.cls) (hn : ∀ ad : Nat → Nat, narrow t (pm_v ad v) = pm_v ad v) (hfit : ∀ ad : Nat → Nat, fits t (pm_v ad v) = true) (kk : pm_X gs ro M d mc ms c0 s0 (pc + 3) L st n (va_up w a (.inr (ci, fs.set k v))) Q) : pm_X gs ro M d mc ms c0 s0 pc L (v :: .ref a :: st) n w Q := by
  intro p l e s m args below meth c H locs ls D cA ad ad0 n0 A F G LL SS
  obtain ⟨C, T, N, ty, ⟨hc, hin, hty, hnm⟩, hk, hlk, ht, hfin, hC⟩ := hf
  have hts := F.2.2.2.2.2.2.2.1
  have hwk := G.2.2.2.2.2.2
  have hek : pm_ek n (.inr (ci, fs.set k v)) := pm_eko fun u hu => by
    rcases List.mem_or_eq_of_mem_set hu with q | q
    · exact (hwk a ha).2 ci fs hw u q
    · rw [q]; exact pm_Sh SS
  refine va_putF (D := D) (ci := ci) (fs := fs.map (pm_v ad)) (C := C) (T := T) (N := N) F.1 F.2.1 (Ts := lw_g) hts hin ty hty hnm F.2.2.2.2.2.2.1 F.2.2.2.2.2.2.2.2.1 G.1 G.2.1 G.2.2.1 a ?_ hc k hk (pm_hts hts hlk) (fun _ q => q) hfin (F.2.2.2.2.2.1 hi) (hC.trans (hown _ hc)) (ty := t) (v := pm_v ad v) (by rw [hty k hk, ht]) (hn ad) (hfit ad) (by rw [List.length_map]; exact hl) h (fun H1 locs1 hP hD hS => ?_)
  · rw [pm_W_get ha, hw]; rfl
  · have e1 : (pm_W cA ad n w).set a (ad a, .inr (ci, (fs.map (pm_v ad)).set k (pm_v ad v))) = pm_W cA ad n (va_up w a (.inr (ci, fs.set k v))) := by
      rw [← pm_W_set]
      show _ = (pm_W cA ad n w).set a (ad a, .inr (ci, (fs.set k v).map (pm_v ad)))
      rw [List.map_set]
    rw [e1] at hP hD
    exact kk p l e s m args below meth c H1 locs1 ls D cA ad ad0 n0 A F ⟨hP, hD, hS, G.2.2.2.1, G.2.2.2.2.1, G.2.2.2.2.2.1, pm_wku hwk hek⟩ LL (pm_St (pm_St SS))
theorem pm_iald {a N : Nat} {f : Nat → Int32} {i : Int32} (h : decode M.2.1 pc = .ok (.iaload, 1)) (ha : a < n) (hw : w a = .inl (0, N, .inl f)) (hi : vp_in i N) (kk : pm_X gs ro M d mc ms c0 s0 (pc + 1) L (.int (f i.toNatClampNeg) :: st) n w Q) : pm_X gs ro M d mc ms c0 s0 pc L (.int i :: .ref a :: st) n w Q := by
  intro p l e s m args below meth c H locs ls D cA ad ad0 n0 A F G LL SS
  refine va_iald (D := D) F.1 F.2.1 F.2.2.2.2.2.2.2.2.1 G.1 a 0 (cA := cA 0) (n := N) (f := f) ?_ rfl hi h (kk p l e s m args below meth c H locs ls D cA ad ad0 n0 A F G LL (pm_Si (pm_St (pm_St SS))))
  rw [pm_W_get ha, hw]; rfl
theorem pm_zald {a N : Nat} {f : Nat → Int32} {i : Int32} (h : decode M.2.1 pc = .ok (.baload, 1)) (ha : a < n) (hw : w a = .inl (1, N, .inl f)) (hi : vp_in i N) (kk : pm_X gs ro M d mc ms c0 s0 (pc + 1) L (.int (f i.toNatClampNeg) :: st) n w Q) : pm_X gs ro M d mc ms c0 s0 pc L (.int i :: .ref a :: st) n w Q := by
  intro p l e s m args below meth c H locs ls D cA ad ad0 n0 A F G LL SS
  refine va_zald (D := D) F.1 F.2.1 F.2.2.2.2.2.2.2.2.1 G.1 a 1 (cA := cA 1) (n := N) (f := f) ?_ rfl hi h (kk p l e s m args below meth c H locs ls D cA ad ad0 n0 A F G LL (pm_Si (pm_St (pm_St SS))))
  rw [pm_W_get ha, hw]; rfl
theorem pm_iast {a N : Nat} {f : Nat → Int32} {i x : Int32} (h : decode M.2.1 pc = .ok (.iastore, 1)) (ha : a < n) (hw : w a = .inl (0, N, .inl f)) (hi : vp_in i N) (kk : pm_X gs ro M d mc ms c0 s0 (pc + 1) L st n (va_up w a (.inl (0, N, .inl (upd f i.toNatClampNeg x)))) Q) : pm_X gs ro M d mc ms c0 s0 pc L (.int x :: .int i :: .ref a :: st) n w Q := by
  intro p l e s m args below meth c H locs ls D cA ad ad0 n0 A F G LL SS
  refine va_iast (D := D) F.1 F.2.1 F.2.2.2.2.2.2.2.2.1 G.1 G.2.1 G.2.2.1 a 0 (cA := cA 0) (n := N) (f := f) ?_ rfl hi h (fun H1 locs1 hP hD hS => ?_)
  · rw [pm_W_get ha, hw]; rfl
  · have e1 := pm_W_set (cA := cA) (ad := ad) (n := n) (k := a) (w := w) (.inl (0, N, .inl (upd f i.toNatClampNeg x)))
    have hP : va_P D vwCl (pm_W cA ad n (va_up w a (.inl (0, N, .inl (upd f i.toNatClampNeg x))))) H1 := e1 ▸ hP
    have hD : va_D A (pm_W cA ad n (va_up w a (.inl (0, N, .inl (upd f i.toNatClampNeg x))))) := e1 ▸ hD
    exact kk p l e s m args below meth c H1 locs1 ls D cA ad ad0 n0 A F ⟨hP, hD, hS, G.2.2.2.1, G.2.2.2.2.1, G.2.2.2.2.2.1, pm_wku G.2.2.2.2.2.2 pm_eki⟩ LL (pm_St (pm_St (pm_St SS)))
theorem pm_zast {a N : Nat} {f : Nat → Int32} {i x : Int32} (h : decode M.2.1 pc = .ok (.bastore, 1)) (ha : a < n) (hw : w a = .inl (1, N, .inl f)) (hi : vp_in i N) (kk : pm_X gs ro M d mc ms c0 s0 (pc + 1) L st n (va_up w a (.inl (1, N, .inl (upd f i.toNatClampNeg (vp_nar .boolean x))))) Q) : pm_X gs ro M d mc ms c0 s0 pc L (.int x :: .int i :: .ref a :: st) n w Q := by
  intro p l e s m args below meth c H locs ls D cA ad ad0 n0 A F G LL SS
  refine va_zast (D := D) F.1 F.2.1 F.2.2.2.2.2.2.2.2.1 G.1 G.2.1 G.2.2.1 a 1 (cA := cA 1) (n := N) (f := f) ?_ rfl hi h (fun H1 locs1 hP hD hS => ?_)
  · rw [pm_W_get ha, hw]; rfl
  · have e1 := pm_W_set (cA := cA) (ad := ad) (n := n) (k := a) (w := w) (.inl (1, N, .inl (upd f i.toNatClampNeg (vp_nar .boolean x))))
    have hP : va_P D vwCl (pm_W cA ad n (va_up w a (.inl (1, N, .inl (upd f i.toNatClampNeg (vp_nar .boolean x)))))) H1 := e1 ▸ hP
    have hD : va_D A (pm_W cA ad n (va_up w a (.inl (1, N, .inl (upd f i.toNatClampNeg (vp_nar .boolean x)))))) := e1 ▸ hD
    exact kk p l e s m args below meth c H1 locs1 ls D cA ad ad0 n0 A F ⟨hP, hD, hS, G.2.2.2.1, G.2.2.2.2.1, G.2.2.2.2.2.1, pm_wku G.2.2.2.2.2.2 pm_eki⟩ LL (pm_St (pm_St (pm_St SS)))
theorem pm_alen {a t N : Nat} {x : pm_A} {v : Int32} (h : decode M.2.1 pc = .ok (.arraylength, 1)) (ha : a < n) (hw : w a = .inl (t, N, x)) (ht : t < 4) (hv : Int32.ofNat N = v) (kk : pm_X gs ro M d mc ms c0 s0 (pc + 1) L (.int v :: st) n w Q) : pm_X gs ro M d mc ms c0 s0 pc L (.ref a :: st) n w Q := by
  intro p l e s m args below meth c H locs ls D cA ad ad0 n0 A F G LL SS
  obtain ⟨ty, hty⟩ : ∃ ty, (pm_tys cA)[t]? = some (cA t, ty) := by
    match t, ht with
    | 0, _ => exact ⟨_, rfl⟩
    | 1, _ => exact ⟨_, rfl⟩
    | 2, _ => exact ⟨_, rfl⟩
    | 3, _ => exact ⟨_, rfl⟩
  refine va_alen (D := D) F.1 F.2.1 F.2.2.2.2.2.2.2.2.1 G.1 a t (cA := cA t) (x := (N, pm_x ad x)) ?_ hty hv h (kk p l e s m args below meth c H locs ls D cA ad ad0 n0 A F G LL (pm_Si (pm_St SS)))
  rw [pm_W_get ha, hw]; rfl
/-- a read-only array -/
theorem pm_tld {a N : Nat} {f : Nat → Int32} {i : Int32} (h : decode M.2.1 pc = .ok (.iaload, 1)) (hr : ro a = some (N, f)) (hi : vp_in i N) (kk : pm_X gs ro M d mc ms c0 s0 (pc + 1) L (.int (f i.toNatClampNeg) :: st) n w Q) : pm_X gs ro M d mc ms c0 s0 pc L (.int i :: .ref a :: st) n w Q := by
  intro p l e s m args below meth c H locs ls D cA ad ad0 n0 A F G LL SS
  obtain ⟨h1, h2⟩ := F.2.2.2.2.2.2.2.2.2.2.1 a N f hr
  rw [← G.2.2.2.2.2.1 a (Or.inr h1)] at h2
  exact va_ti F.1 F.2.1 h2 G.2.2.1 hi rfl h (kk p l e s m args below meth c H locs ls D cA ad ad0 n0 A F G LL (pm_Si (pm_St (pm_St SS))))
theorem pm_tlen {a N : Nat} {f : Nat → Int32} {v : Int32} (h : decode M.2.1 pc = .ok (.arraylength, 1)) (hr : ro a = some (N, f)) (hv : Int32.ofNat N = v) (kk : pm_X gs ro M d mc ms c0 s0 (pc + 1) L (.int v :: st) n w Q) : pm_X gs ro M d mc ms c0 s0 pc L (.ref a :: st) n w Q := by
  intro p l e s m args below meth c H locs ls D cA ad ad0 n0 A F G LL SS
  obtain ⟨h1, h2⟩ := F.2.2.2.2.2.2.2.2.2.2.1 a N f hr
  rw [← G.2.2.2.2.2.1 a (Or.inr h1)] at h2
  exact va_tlen F.1 F.2.1 h2 G.2.2.1 hv h (kk p l e s m args below meth c H locs ls D cA ad ad0 n0 A F G LL (pm_Si (pm_St SS)))
theorem pm_gets {idx j : Nat} {nm : String} (h : decode M.2.1 pc = .ok (.getstatic idx, 3)) (hj : gs[j]? = some nm) (hl : Cond.fieldLink M.1.cls idx "RunsBack" nm "[I" ∈ lw_g) (kk : pm_X gs ro M d mc ms c0 s0 (pc + 3) L (.ref (1000000 + j) :: st) n w Q) : pm_X gs ro M d mc ms c0 s0 pc L st n w Q := by
  intro p l e s m args below meth c H locs ls D cA ad ad0 n0 A F G LL SS
  have hz := F.2.2.2.2.2.2.2.2.2.2.2.1 j nm hj
  rw [← G.2.2.2.2.2.1 (1000000 + j) (Or.inr (Nat.le_add_right _ _))] at hz
  exact va_gets F.1 F.2.1 hz G.2.2.1 F.2.2.2.2.2.2.1 (pm_hts F.2.2.2.2.2.2.2.1 hl) (fun _ q => q) h (kk p l e s m args below meth c H locs ls D cA ad ad0 n0 A F G LL (pm_Sc (fun k q => by cases q; exact Or.inr (Nat.le_add_right _ _)) SS))
/-! returns -/
theorem pm_ret0 {r : Option Value} {s : State} {D : va_G} {cA : Nat → ClassId} {ad ad0 : Nat → Nat} {n0 : Nat} {A : Nat → Prop} {H : Heap} {locs : List Loc} {args : Array Value} (hK : va_K D vwCl (pm_tys cA) s) (G : pm_G s D cA ad0 n0 A H locs ad n w) (hr : ∀ v, r = some v → pm_ok n v) (hq : Q r n w) : ∀ t : State, t.heap = H → s.WarmedH t.vm → pm_Q D cA ad0 n0 A Q args s (.returned (r.map (pm_v ad))) t := fun t ht hW =>
  ⟨⟨r, n, w, ad, rfl, hq, G.2.2.2.1, G.2.2.2.2.1, G.2.2.2.2.2.1, G.2.2.2.2.2.2, hr, by rw [ht]; exact G.1, va_K.moved hW.alike hK, G.2.1⟩, G.2.2.1.F ht⟩
theorem pm_iret {v : Int32} (h : decode M.2.1 pc = .ok (.ireturn, 1)) (hr : M.2.2.2 = some .int) (hc : c0 ≤ mc) (hs : s0 ≤ ms) (hq : Q (some (.int v)) n w) : pm_X gs ro M d mc ms c0 s0 pc L [.int v] n w Q := by
  intro p l e s m args below meth c H locs ls D cA ad ad0 n0 A F G LL SS
  refine W.widen hc hs ?_
  exact W.iret (v := v) F.1 F.2.1 (F.2.2.2.1.trans hr) (pm_ret0 (r := some (.int v)) F.2.2.2.2.2.2.2.2.1 G (fun u q => by cases q; exact pm_oki) hq) G.2.2.1.2.2 h F.2.2.2.2.1
theorem pm_zret {v : Int32} (h : decode M.2.1 pc = .ok (.ireturn, 1)) (hr : M.2.2.2 = some .boolean) (hv : v = 0 ∨ v = 1) (hc : c0 ≤ mc) (hs : s0 ≤ ms) (hq : Q (some (.int v)) n w) : pm_X gs ro M d mc ms c0 s0 pc L [.int v] n w Q := by
  intro p l e s m args below meth c H locs ls D cA ad ad0 n0 A F G LL SS
  refine W.widen hc hs ?_
  exact W.zret (v := v) (ty := .boolean) F.1 F.2.1 (F.2.2.2.1.trans hr) (by rcases hv with rfl | rfl <;> decide +kernel) (pm_ret0 (r := some (.int v)) F.2.2.2.2.2.2.2.2.1 G (fun u q => by cases q; exact pm_oki) hq) G.2.2.1.2.2 h F.2.2.2.2.1
theorem pm_vret (h : decode M.2.1 pc = .ok (.return_, 1)) (hr : M.2.2.2 = none) (hc : c0 ≤ mc) (hs : s0 ≤ ms) (hq : Q none n w) : pm_X gs ro M d mc ms c0 s0 pc L [] n w Q := by
  intro p l e s m args below meth c H locs ls D cA ad ad0 n0 A F G LL SS
  refine W.widen hc hs ?_
  exact W.vret F.1 F.2.1 (F.2.2.2.1.trans hr) (pm_ret0 (r := none) F.2.2.2.2.2.2.2.2.1 G (fun u q => by cases q) hq) G.2.2.1.2.2 h F.2.2.2.2.1
theorem pm_aret {v : Value} {rt : FieldType} (h : decode M.2.1 pc = .ok (.areturn, 1)) (hr : M.2.2.2 = some rt) (hrt : (∃ n, rt = .object n) ∨ ∃ t, rt = .array t) (hv : v = .null ∨ ∃ a, v = .ref a) (hc : c0 ≤ mc) (hs : s0 ≤ ms) (hq : Q (some v) n w) : pm_X gs ro M d mc ms c0 s0 pc L [v] n w Q := by
  intro p l e s m args below meth c H locs ls D cA ad ad0 n0 A F G LL SS
  refine W.widen hc hs ?_
  exact W.aret (v := pm_v ad v) F.1 F.2.1 (F.2.2.2.1.trans hr) hrt (by rcases hv with rfl | ⟨a, rfl⟩; exact Or.inl rfl; exact Or.inr ⟨_, rfl⟩) (pm_ret0 (r := some v) F.2.2.2.2.2.2.2.2.1 G (fun u q => by cases q; exact pm_Sh SS) hq) G.2.2.1.2.2 h F.2.2.2.2.1
end PMH
