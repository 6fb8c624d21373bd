section PMR
variable {gs : List String} {ro : pm_RO} {M : pm_M} {d mc ms c0 s0 pc : Nat} {L : List (Option Value)} {st : List Value} {n : Nat} {w : Nat → va_E} {Q : Option Value → Nat → (Nat → va_E) → Prop}
theorem pm_iconst {k : Int} {v : Int32} (h : decode M.2.1 pc = .ok (.iconst k, 1)) (hv : Int32.ofInt k = v) (kk : pm_X gs ro M d mc ms c0 s0 (pc + 1) L (.int v :: st) n w Q) : pm_X gs ro M d mc ms c0 s0 pc L (st) n w Q := by
  intro p l e s m args below meth c H locs ls D cA ad ad0 n0 A F G LL SS
  exact lv_iconst F.1 F.2.1 h hv (kk p l e s m args below meth c H locs ls D cA ad ad0 n0 A F G LL (pm_Si SS))
theorem pm_bipush {k : Int} {v : Int32} (h : decode M.2.1 pc = .ok (.bipush k, 2)) (hv : (Int8.ofInt k).toInt32 = v) (kk : pm_X gs ro M d mc ms c0 s0 (pc + 2) L (.int v :: st) n w Q) : pm_X gs ro M d mc ms c0 s0 pc L (st) n w Q := by
  intro p l e s m args below meth c H locs ls D cA ad ad0 n0 A F G LL SS
  exact lv_bipush F.1 F.2.1 h hv (kk p l e s m args below meth c H locs ls D cA ad ad0 n0 A F G LL (pm_Si SS))
theorem pm_sipush {k : Int} {v : Int32} (h : decode M.2.1 pc = .ok (.sipush k, 3)) (hv : (Int16.ofInt k).toInt32 = v) (kk : pm_X gs ro M d mc ms c0 s0 (pc + 3) L (.int v :: st) n w Q) : pm_X gs ro M d mc ms c0 s0 pc L (st) n w Q := by
  intro p l e s m args below meth c H locs ls D cA ad ad0 n0 A F G LL SS
  exact lv_sipush F.1 F.2.1 h hv (kk p l e s m args below meth c H locs ls D cA ad ad0 n0 A F G LL (pm_Si SS))
theorem pm_null  (h : decode M.2.1 pc = .ok (.aconst_null, 1)) (kk : pm_X gs ro M d mc ms c0 s0 (pc + 1) L (.null :: st) n w Q) : pm_X gs ro M d mc ms c0 s0 pc L (st) n w Q := by
  intro p l e s m args below meth c H locs ls D cA ad ad0 n0 A F G LL SS
  exact lv_null F.1 F.2.1 h (kk p l e s m args below meth c H locs ls D cA ad ad0 n0 A F G LL (pm_Sc pm_okn SS))
theorem pm_ldc {k : Nat} {v : Int32} (h : decode M.2.1 pc = .ok (.ldc k, 2)) (hm : Cond.constant M.1.cls k v ∈ lw_g) (kk : pm_X gs ro M d mc ms c0 s0 (pc + 2) L (.int v :: st) n w Q) : pm_X gs ro M d mc ms c0 s0 pc L (st) n w Q := by
  intro p l e s m args below meth c H locs ls D cA ad ad0 n0 A F G LL SS
  exact lv_ldc F.1 F.2.1 F.2.2.2.2.2.2.1 (F.2.2.2.2.2.2.2.1 _ hm) h (kk p l e s m args below meth c H locs ls D cA ad ad0 n0 A F G LL (pm_Si SS))
theorem pm_iadd {x y : Int32} (h : decode M.2.1 pc = .ok (.iadd, 1)) (kk : pm_X gs ro M d mc ms c0 s0 (pc + 1) L (.int (x + y) :: st) n w Q) : pm_X gs ro M d mc ms c0 s0 pc L (.int y :: .int x :: st) n w Q := by
  intro p l e s m args below meth c H locs ls D cA ad ad0 n0 A F G LL SS
  exact lv_iadd F.1 F.2.1 h (kk p l e s m args below meth c H locs ls D cA ad ad0 n0 A F G LL (pm_Si (pm_St (pm_St SS))))
theorem pm_isub {x y : Int32} (h : decode M.2.1 pc = .ok (.isub, 1)) (kk : pm_X gs ro M d mc ms c0 s0 (pc + 1) L (.int (x - y) :: st) n w Q) : pm_X gs ro M d mc ms c0 s0 pc L (.int y :: .int x :: st) n w Q := by
  intro p l e s m args below meth c H locs ls D cA ad ad0 n0 A F G LL SS
  exact lv_isub F.1 F.2.1 h (kk p l e s m args below meth c H locs ls D cA ad ad0 n0 A F G LL (pm_Si (pm_St (pm_St SS))))
theorem pm_imul {x y : Int32} (h : decode M.2.1 pc = .ok (.imul, 1)) (kk : pm_X gs ro M d mc ms c0 s0 (pc + 1) L (.int (x * y) :: st) n w Q) : pm_X gs ro M d mc ms c0 s0 pc L (.int y :: .int x :: st) n w Q := by
  intro p l e s m args below meth c H locs ls D cA ad ad0 n0 A F G LL SS
  exact lv_imul F.1 F.2.1 h (kk p l e s m args below meth c H locs ls D cA ad ad0 n0 A F G LL (pm_Si (pm_St (pm_St SS))))
theorem pm_iand {x y : Int32} (h : decode M.2.1 pc = .ok (.iand, 1)) (kk : pm_X gs ro M d mc ms c0 s0 (pc + 1) L (.int (x &&& y) :: st) n w Q) : pm_X gs ro M d mc ms c0 s0 pc L (.int y :: .int x :: st) n w Q := by
  intro p l e s m args below meth c H locs ls D cA ad ad0 n0 A F G LL SS
  exact lv_iand F.1 F.2.1 h (kk p l e s m args below meth c H locs ls D cA ad ad0 n0 A F G LL (pm_Si (pm_St (pm_St SS))))
theorem pm_ior {x y : Int32} (h : decode M.2.1 pc = .ok (.ior, 1)) (kk : pm_X gs ro M d mc ms c0 s0 (pc + 1) L (.int (x ||| y) :: st) n w Q) : pm_X gs ro M d mc ms c0 s0 pc L (.int y :: .int x :: st) n w Q := by
  intro p l e s m args below meth c H locs ls D cA ad ad0 n0 A F G LL SS
  exact lv_ior F.1 F.2.1 h (kk p l e s m args below meth c H locs ls D cA ad ad0 n0 A F G LL (pm_Si (pm_St (pm_St SS))))
theorem pm_ixor {x y : Int32} (h : decode M.2.1 pc = .ok (.ixor, 1)) (kk : pm_X gs ro M d mc ms c0 s0 (pc + 1) L (.int (x ^^^ y) :: st) n w Q) : pm_X gs ro M d mc ms c0 s0 pc L (.int y :: .int x :: st) n w Q := by
  intro p l e s m args below meth c H locs ls D cA ad ad0 n0 A F G LL SS
  exact lv_ixor F.1 F.2.1 h (kk p l e s m args below meth c H locs ls D cA ad ad0 n0 A F G LL (pm_Si (pm_St (pm_St SS))))
theorem pm_ishl {x y : Int32} (h : decode M.2.1 pc = .ok (.ishl, 1)) (kk : pm_X gs ro M d mc ms c0 s0 (pc + 1) L (.int (x <<< (y &&& 31)) :: st) n w Q) : pm_X gs ro M d mc ms c0 s0 pc L (.int y :: .int x :: st) n w Q := by
  intro p l e s m args below meth c H locs ls D cA ad ad0 n0 A F G LL SS
  exact lv_ishl F.1 F.2.1 h (kk p l e s m args below meth c H locs ls D cA ad ad0 n0 A F G LL (pm_Si (pm_St (pm_St SS))))
theorem pm_ishr {x y : Int32} (h : decode M.2.1 pc = .ok (.ishr, 1)) (kk : pm_X gs ro M d mc ms c0 s0 (pc + 1) L (.int (x >>> (y &&& 31)) :: st) n w Q) : pm_X gs ro M d mc ms c0 s0 pc L (.int y :: .int x :: st) n w Q := by
  intro p l e s m args below meth c H locs ls D cA ad ad0 n0 A F G LL SS
  exact lv_ishr F.1 F.2.1 h (kk p l e s m args below meth c H locs ls D cA ad ad0 n0 A F G LL (pm_Si (pm_St (pm_St SS))))
theorem pm_iushr {x y : Int32} (h : decode M.2.1 pc = .ok (.iushr, 1)) (kk : pm_X gs ro M d mc ms c0 s0 (pc + 1) L (.int ((x.toUInt32 >>> (y.toUInt32 &&& Int32.toUInt32 31)).toInt32) :: st) n w Q) : pm_X gs ro M d mc ms c0 s0 pc L (.int y :: .int x :: st) n w Q := by
  intro p l e s m args below meth c H locs ls D cA ad ad0 n0 A F G LL SS
  exact lv_iushr F.1 F.2.1 h rfl (kk p l e s m args below meth c H locs ls D cA ad ad0 n0 A F G LL (pm_Si (pm_St (pm_St SS))))
theorem pm_ineg {x : Int32} (h : decode M.2.1 pc = .ok (.ineg, 1)) (kk : pm_X gs ro M d mc ms c0 s0 (pc + 1) L (.int (-x) :: st) n w Q) : pm_X gs ro M d mc ms c0 s0 pc L (.int x :: st) n w Q := by
  intro p l e s m args below meth c H locs ls D cA ad ad0 n0 A F G LL SS
  exact lv_ineg F.1 F.2.1 h (kk p l e s m args below meth c H locs ls D cA ad ad0 n0 A F G LL (pm_Si (pm_St SS)))
theorem pm_idiv {x y : Int32} (h : decode M.2.1 pc = .ok (.idiv, 1)) (hy : ¬ y = 0) (kk : pm_X gs ro M d mc ms c0 s0 (pc + 1) L (.int (x / y) :: st) n w Q) : pm_X gs ro M d mc ms c0 s0 pc L (.int y :: .int x :: st) n w Q := by
  intro p l e s m args below meth c H locs ls D cA ad ad0 n0 A F G LL SS
  exact lv_idiv F.1 F.2.1 h hy (kk p l e s m args below meth c H locs ls D cA ad ad0 n0 A F G LL (pm_Si (pm_St (pm_St SS))))
theorem pm_irem {x y : Int32} (h : decode M.2.1 pc = .ok (.irem, 1)) (hy : ¬ y = 0) (kk : pm_X gs ro M d mc ms c0 s0 (pc + 1) L (.int (x - x / y * y) :: st) n w Q) : pm_X gs ro M d mc ms c0 s0 pc L (.int y :: .int x :: st) n w Q := by
  intro p l e s m args below meth c H locs ls D cA ad ad0 n0 A F G LL SS
  exact lv_irem F.1 F.2.1 h hy (kk p l e s m args below meth c H locs ls D cA ad ad0 n0 A F G LL (pm_Si (pm_St (pm_St SS))))
theorem pm_dup {v : Value} (h : decode M.2.1 pc = .ok (.dup, 1)) (hc : v.category = 1) (kk : pm_X gs ro M d mc ms c0 s0 (pc + 1) L (v :: v :: st) n w Q) : pm_X gs ro M d mc ms c0 s0 pc L (v :: st) n w Q := by
  intro p l e s m args below meth c H locs ls D cA ad ad0 n0 A F G LL SS
  exact lv_dup F.1 F.2.1 h (by rw [pm_v_cat]; exact hc) (kk p l e s m args below meth c H locs ls D cA ad ad0 n0 A F G LL (pm_Sc (pm_Sh SS) SS))
theorem pm_pop {v : Value} (h : decode M.2.1 pc = .ok (.pop, 1)) (hc : v.category = 1) (kk : pm_X gs ro M d mc ms c0 s0 (pc + 1) L (st) n w Q) : pm_X gs ro M d mc ms c0 s0 pc L (v :: st) n w Q := by
  intro p l e s m args below meth c H locs ls D cA ad ad0 n0 A F G LL SS
  exact lv_pop F.1 F.2.1 h (by rw [pm_v_cat]; exact hc) (kk p l e s m args below meth c H locs ls D cA ad ad0 n0 A F G LL (pm_St SS))
theorem pm_dup2 {v u : Value} (h : decode M.2.1 pc = .ok (.dup2, 1)) (hc : v.category = 1) (hu : u.category = 1) (kk : pm_X gs ro M d mc ms c0 s0 (pc + 1) L (v :: u :: v :: u :: st) n w Q) : pm_X gs ro M d mc ms c0 s0 pc L (v :: u :: st) n w Q := by
  intro p l e s m args below meth c H locs ls D cA ad ad0 n0 A F G LL SS
  exact lv_dup2_11 F.1 F.2.1 h (by rw [pm_v_cat]; exact hc) (by rw [pm_v_cat]; exact hu) (kk p l e s m args below meth c H locs ls D cA ad ad0 n0 A F G LL (pm_Sc (pm_Sh SS) (pm_Sc (pm_Sh (pm_St SS)) SS)))
theorem pm_dup_x1 {v u : Value} (h : decode M.2.1 pc = .ok (.dup_x1, 1)) (hc : v.category = 1) (hu : u.category = 1) (kk : pm_X gs ro M d mc ms c0 s0 (pc + 1) L (v :: u :: v :: st) n w Q) : pm_X gs ro M d mc ms c0 s0 pc L (v :: u :: st) n w Q := by
  intro p l e s m args below meth c H locs ls D cA ad ad0 n0 A F G LL SS
  exact lv_dup_x1 F.1 F.2.1 h (by rw [pm_v_cat]; exact hc) (by rw [pm_v_cat]; exact hu) (kk p l e s m args below meth c H locs ls D cA ad ad0 n0 A F G LL (pm_Sc (pm_Sh SS) (pm_Sc (pm_Sh (pm_St SS)) (pm_Sc (pm_Sh SS) (pm_St (pm_St SS))))))
theorem pm_iload {i : Nat} {x : Int32} (h : decode M.2.1 pc = .ok (.iload i, 2)) (hl : L[i]? = some (some (.int x))) (kk : pm_X gs ro M d mc ms c0 s0 (pc + 2) L (.int x :: st) n w Q) : pm_X gs ro M d mc ms c0 s0 pc L (st) n w Q := by
  intro p l e s m args below meth c H locs ls D cA ad ad0 n0 A F G LL SS
  exact lv_iload F.1 F.2.1 h (LL.2.2 i _ hl).1 (kk p l e s m args below meth c H locs ls D cA ad ad0 n0 A F G LL (pm_Si SS))
theorem pm_iload_n {k : Fin 4} {x : Int32} (h : decode M.2.1 pc = .ok (.iload_n k, 1)) (hl : L[(k : Nat)]? = some (some (.int x))) (kk : pm_X gs ro M d mc ms c0 s0 (pc + 1) L (.int x :: st) n w Q) : pm_X gs ro M d mc ms c0 s0 pc L (st) n w Q := by
  intro p l e s m args below meth c H locs ls D cA ad ad0 n0 A F G LL SS
  exact lv_iload_n F.1 F.2.1 h rfl (LL.2.2 k _ hl).1 (kk p l e s m args below meth c H locs ls D cA ad ad0 n0 A F G LL (pm_Si SS))
theorem pm_aload {i : Nat} {x : Nat} (h : decode M.2.1 pc = .ok (.aload i, 2)) (hl : L[i]? = some (some (.ref x))) (kk : pm_X gs ro M d mc ms c0 s0 (pc + 2) L (.ref x :: st) n w Q) : pm_X gs ro M d mc ms c0 s0 pc L (st) n w Q := by
  intro p l e s m args below meth c H locs ls D cA ad ad0 n0 A F G LL SS
  exact lv_aload F.1 F.2.1 h (LL.2.2 i _ hl).1 (kk p l e s m args below meth c H locs ls D cA ad ad0 n0 A F G LL (pm_Sc (LL.2.2 i _ hl).2 SS))
theorem pm_aload_n {k : Fin 4} {x : Nat} (h : decode M.2.1 pc = .ok (.aload_n k, 1)) (hl : L[(k : Nat)]? = some (some (.ref x))) (kk : pm_X gs ro M d mc ms c0 s0 (pc + 1) L (.ref x :: st) n w Q) : pm_X gs ro M d mc ms c0 s0 pc L (st) n w Q := by
  intro p l e s m args below meth c H locs ls D cA ad ad0 n0 A F G LL SS
  exact lv_aload_n F.1 F.2.1 h rfl (LL.2.2 k _ hl).1 (kk p l e s m args below meth c H locs ls D cA ad ad0 n0 A F G LL (pm_Sc (LL.2.2 k _ hl).2 SS))
theorem pm_aloadN {i : Nat} (h : decode M.2.1 pc = .ok (.aload i, 2)) (hl : L[i]? = some (some .null)) (kk : pm_X gs ro M d mc ms c0 s0 (pc + 2) L (.null :: st) n w Q) : pm_X gs ro M d mc ms c0 s0 pc L (st) n w Q := by
  intro p l e s m args below meth c H locs ls D cA ad ad0 n0 A F G LL SS
  exact lv_aloadN F.1 F.2.1 h (LL.2.2 i _ hl).1 (kk p l e s m args below meth c H locs ls D cA ad ad0 n0 A F G LL (pm_Sc pm_okn SS))
theorem pm_aload_nN {k : Fin 4} (h : decode M.2.1 pc = .ok (.aload_n k, 1)) (hl : L[(k : Nat)]? = some (some .null)) (kk : pm_X gs ro M d mc ms c0 s0 (pc + 1) L (.null :: st) n w Q) : pm_X gs ro M d mc ms c0 s0 pc L (st) n w Q := by
  intro p l e s m args below meth c H locs ls D cA ad ad0 n0 A F G LL SS
  exact lv_aload_nN F.1 F.2.1 h rfl (LL.2.2 k _ hl).1 (kk p l e s m args below meth c H locs ls D cA ad ad0 n0 A F G LL (pm_Sc pm_okn SS))
theorem pm_if_eq {x : Int32} {off : Int} {tgt : Nat} (h : decode M.2.1 pc = .ok (.ifCond .eq off, 3)) (ht : (pc : Int) + off = (tgt : Int)) (kt : x = 0 → pm_X gs ro M d mc ms c0 s0 tgt L st n w Q) (kf : ¬ x = 0 → pm_X gs ro M d mc ms c0 s0 (pc + 3) L st n w Q) : pm_X gs ro M d mc ms c0 s0 pc L (.int x :: st) n w Q := by
  intro p l e s m args below meth c H locs ls D cA ad ad0 n0 A F G LL SS
  exact lv_if_eq F.1 F.2.1 h ht (fun q => kt q p l e s m args below meth c H locs ls D cA ad ad0 n0 A F G LL (pm_St SS)) (fun q => kf q p l e s m args below meth c H locs ls D cA ad ad0 n0 A F G LL (pm_St SS))
theorem pm_icmp_eq {x y : Int32} {off : Int} {tgt : Nat} (h : decode M.2.1 pc = .ok (.if_icmp .eq off, 3)) (ht : (pc : Int) + off = (tgt : Int)) (kt : x = y → pm_X gs ro M d mc ms c0 s0 tgt L st n w Q) (kf : ¬ x = y → pm_X gs ro M d mc ms c0 s0 (pc + 3) L st n w Q) : pm_X gs ro M d mc ms c0 s0 pc L (.int y :: .int x :: st) n w Q := by
  intro p l e s m args below meth c H locs ls D cA ad ad0 n0 A F G LL SS
  exact lv_icmp_eq F.1 F.2.1 h ht (fun q => kt q p l e s m args below meth c H locs ls D cA ad ad0 n0 A F G LL (pm_St (pm_St SS))) (fun q => kf q p l e s m args below meth c H locs ls D cA ad ad0 n0 A F G LL (pm_St (pm_St SS)))
theorem pm_if_ne {x : Int32} {off : Int} {tgt : Nat} (h : decode M.2.1 pc = .ok (.ifCond .ne off, 3)) (ht : (pc : Int) + off = (tgt : Int)) (kt : ¬ x = 0 → pm_X gs ro M d mc ms c0 s0 tgt L st n w Q) (kf : x = 0 → pm_X gs ro M d mc ms c0 s0 (pc + 3) L st n w Q) : pm_X gs ro M d mc ms c0 s0 pc L (.int x :: st) n w Q := by
  intro p l e s m args below meth c H locs ls D cA ad ad0 n0 A F G LL SS
  exact lv_if_ne F.1 F.2.1 h ht (fun q => kt q p l e s m args below meth c H locs ls D cA ad ad0 n0 A F G LL (pm_St SS)) (fun q => kf q p l e s m args below meth c H locs ls D cA ad ad0 n0 A F G LL (pm_St SS))
theorem pm_icmp_ne {x y : Int32} {off : Int} {tgt : Nat} (h : decode M.2.1 pc = .ok (.if_icmp .ne off, 3)) (ht : (pc : Int) + off = (tgt : Int)) (kt : ¬ x = y → pm_X gs ro M d mc ms c0 s0 tgt L st n w Q) (kf : x = y → pm_X gs ro M d mc ms c0 s0 (pc + 3) L st n w Q) : pm_X gs ro M d mc ms c0 s0 pc L (.int y :: .int x :: st) n w Q := by
  intro p l e s m args below meth c H locs ls D cA ad ad0 n0 A F G LL SS
  exact lv_icmp_ne F.1 F.2.1 h ht (fun q => kt q p l e s m args below meth c H locs ls D cA ad ad0 n0 A F G LL (pm_St (pm_St SS))) (fun q => kf q p l e s m args below meth c H locs ls D cA ad ad0 n0 A F G LL (pm_St (pm_St SS)))
theorem pm_if_lt {x : Int32} {off : Int} {tgt : Nat} (h : decode M.2.1 pc = .ok (.ifCond .lt off, 3)) (ht : (pc : Int) + off = (tgt : Int)) (kt : x < 0 → pm_X gs ro M d mc ms c0 s0 tgt L st n w Q) (kf : ¬ x < 0 → pm_X gs ro M d mc ms c0 s0 (pc + 3) L st n w Q) : pm_X gs ro M d mc ms c0 s0 pc L (.int x :: st) n w Q := by
  intro p l e s m args below meth c H locs ls D cA ad ad0 n0 A F G LL SS
  exact lv_if_lt F.1 F.2.1 h ht (fun q => kt q p l e s m args below meth c H locs ls D cA ad ad0 n0 A F G LL (pm_St SS)) (fun q => kf q p l e s m args below meth c H locs ls D cA ad ad0 n0 A F G LL (pm_St SS))
theorem pm_icmp_lt {x y : Int32} {off : Int} {tgt : Nat} (h : decode M.2.1 pc = .ok (.if_icmp .lt off, 3)) (ht : (pc : Int) + off = (tgt : Int)) (kt : x < y → pm_X gs ro M d mc ms c0 s0 tgt L st n w Q) (kf : ¬ x < y → pm_X gs ro M d mc ms c0 s0 (pc + 3) L st n w Q) : pm_X gs ro M d mc ms c0 s0 pc L (.int y :: .int x :: st) n w Q := by
  intro p l e s m args below meth c H locs ls D cA ad ad0 n0 A F G LL SS
  exact lv_icmp_lt F.1 F.2.1 h ht (fun q => kt q p l e s m args below meth c H locs ls D cA ad ad0 n0 A F G LL (pm_St (pm_St SS))) (fun q => kf q p l e s m args below meth c H locs ls D cA ad ad0 n0 A F G LL (pm_St (pm_St SS)))
theorem pm_if_ge {x : Int32} {off : Int} {tgt : Nat} (h : decode M.2.1 pc = .ok (.ifCond .ge off, 3)) (ht : (pc : Int) + off = (tgt : Int)) (kt : 0 ≤ x → pm_X gs ro M d mc ms c0 s0 tgt L st n w Q) (kf : ¬ 0 ≤ x → pm_X gs ro M d mc ms c0 s0 (pc + 3) L st n w Q) : pm_X gs ro M d mc ms c0 s0 pc L (.int x :: st) n w Q := by
  intro p l e s m args below meth c H locs ls D cA ad ad0 n0 A F G LL SS
  exact lv_if_ge F.1 F.2.1 h ht (fun q => kt q p l e s m args below meth c H locs ls D cA ad ad0 n0 A F G LL (pm_St SS)) (fun q => kf q p l e s m args below meth c H locs ls D cA ad ad0 n0 A F G LL (pm_St SS))
theorem pm_icmp_ge {x y : Int32} {off : Int} {tgt : Nat} (h : decode M.2.1 pc = .ok (.if_icmp .ge off, 3)) (ht : (pc : Int) + off = (tgt : Int)) (kt : y ≤ x → pm_X gs ro M d mc ms c0 s0 tgt L st n w Q) (kf : ¬ y ≤ x → pm_X gs ro M d mc ms c0 s0 (pc + 3) L st n w Q) : pm_X gs ro M d mc ms c0 s0 pc L (.int y :: .int x :: st) n w Q := by
  intro p l e s m args below meth c H locs ls D cA ad ad0 n0 A F G LL SS
  exact lv_icmp_ge F.1 F.2.1 h ht (fun q => kt q p l e s m args below meth c H locs ls D cA ad ad0 n0 A F G LL (pm_St (pm_St SS))) (fun q => kf q p l e s m args below meth c H locs ls D cA ad ad0 n0 A F G LL (pm_St (pm_St SS)))
theorem pm_if_gt {x : Int32} {off : Int} {tgt : Nat} (h : decode M.2.1 pc = .ok (.ifCond .gt off, 3)) (ht : (pc : Int) + off = (tgt : Int)) (kt : 0 < x → pm_X gs ro M d mc ms c0 s0 tgt L st n w Q) (kf : ¬ 0 < x → pm_X gs ro M d mc ms c0 s0 (pc + 3) L st n w Q) : pm_X gs ro M d mc ms c0 s0 pc L (.int x :: st) n w Q := by
  intro p l e s m args below meth c H locs ls D cA ad ad0 n0 A F G LL SS
  exact lv_if_gt F.1 F.2.1 h ht (fun q => kt q p l e s m args below meth c H locs ls D cA ad ad0 n0 A F G LL (pm_St SS)) (fun q => kf q p l e s m args below meth c H locs ls D cA ad ad0 n0 A F G LL (pm_St SS))
theorem pm_icmp_gt {x y : Int32} {off : Int} {tgt : Nat} (h : decode M.2.1 pc = .ok (.if_icmp .gt off, 3)) (ht : (pc : Int) + off = (tgt : Int)) (kt : y < x → pm_X gs ro M d mc ms c0 s0 tgt L st n w Q) (kf : ¬ y < x → pm_X gs ro M d mc ms c0 s0 (pc + 3) L st n w Q) : pm_X gs ro M d mc ms c0 s0 pc L (.int y :: .int x :: st) n w Q := by
  intro p l e s m args below meth c H locs ls D cA ad ad0 n0 A F G LL SS
  exact lv_icmp_gt F.1 F.2.1 h ht (fun q => kt q p l e s m args below meth c H locs ls D cA ad ad0 n0 A F G LL (pm_St (pm_St SS))) (fun q => kf q p l e s m args below meth c H locs ls D cA ad ad0 n0 A F G LL (pm_St (pm_St SS)))
theorem pm_if_le {x : Int32} {off : Int} {tgt : Nat} (h : decode M.2.1 pc = .ok (.ifCond .le off, 3)) (ht : (pc : Int) + off = (tgt : Int)) (kt : x ≤ 0 → pm_X gs ro M d mc ms c0 s0 tgt L st n w Q) (kf : ¬ x ≤ 0 → pm_X gs ro M d mc ms c0 s0 (pc + 3) L st n w Q) : pm_X gs ro M d mc ms c0 s0 pc L (.int x :: st) n w Q := by
  intro p l e s m args below meth c H locs ls D cA ad ad0 n0 A F G LL SS
  exact lv_if_le F.1 F.2.1 h ht (fun q => kt q p l e s m args below meth c H locs ls D cA ad ad0 n0 A F G LL (pm_St SS)) (fun q => kf q p l e s m args below meth c H locs ls D cA ad ad0 n0 A F G LL (pm_St SS))
theorem pm_icmp_le {x y : Int32} {off : Int} {tgt : Nat} (h : decode M.2.1 pc = .ok (.if_icmp .le off, 3)) (ht : (pc : Int) + off = (tgt : Int)) (kt : x ≤ y → pm_X gs ro M d mc ms c0 s0 tgt L st n w Q) (kf : ¬ x ≤ y → pm_X gs ro M d mc ms c0 s0 (pc + 3) L st n w Q) : pm_X gs ro M d mc ms c0 s0 pc L (.int y :: .int x :: st) n w Q := by
  intro p l e s m args below meth c H locs ls D cA ad ad0 n0 A F G LL SS
  exact lv_icmp_le F.1 F.2.1 h ht (fun q => kt q p l e s m args below meth c H locs ls D cA ad ad0 n0 A F G LL (pm_St (pm_St SS))) (fun q => kf q p l e s m args below meth c H locs ls D cA ad ad0 n0 A F G LL (pm_St (pm_St SS)))
theorem pm_goto {off : Int} {tgt : Nat} (h : decode M.2.1 pc = .ok (.goto off, 3)) (ht : (pc : Int) + off = (tgt : Int)) (kk : pm_X gs ro M d mc ms c0 s0 tgt L st n w Q) : pm_X gs ro M d mc ms c0 s0 pc L st n w Q := by
  intro p l e s m args below meth c H locs ls D cA ad ad0 n0 A F G LL SS
  exact lv_goto F.1 F.2.1 h ht (kk p l e s m args below meth c H locs ls D cA ad ad0 n0 A F G LL SS)
theorem pm_ifnull {x : Nat} {off : Int} (h : decode M.2.1 pc = .ok (.ifnull off, 3)) (kk : pm_X gs ro M d mc ms c0 s0 (pc + 3) L st n w Q) : pm_X gs ro M d mc ms c0 s0 pc L (.ref x :: st) n w Q := by
  intro p l e s m args below meth c H locs ls D cA ad ad0 n0 A F G LL SS
  exact lv_ifnull F.1 F.2.1 h (kk p l e s m args below meth c H locs ls D cA ad ad0 n0 A F G LL (pm_St SS))
theorem pm_ifnullN {x : Nat} {off : Int} {tgt : Nat} (h : decode M.2.1 pc = .ok (.ifnull off, 3)) (ht : (pc : Int) + off = (tgt : Int)) (kk : pm_X gs ro M d mc ms c0 s0 tgt L st n w Q) : pm_X gs ro M d mc ms c0 s0 pc L (.null :: st) n w Q := by
  intro p l e s m args below meth c H locs ls D cA ad ad0 n0 A F G LL SS
  exact lv_ifnullN F.1 F.2.1 h ht (kk p l e s m args below meth c H locs ls D cA ad ad0 n0 A F G LL (pm_St SS))
theorem pm_ifnonnull {x : Nat} {off : Int} {tgt : Nat} (h : decode M.2.1 pc = .ok (.ifnonnull off, 3)) (ht : (pc : Int) + off = (tgt : Int)) (kk : pm_X gs ro M d mc ms c0 s0 tgt L st n w Q) : pm_X gs ro M d mc ms c0 s0 pc L (.ref x :: st) n w Q := by
  intro p l e s m args below meth c H locs ls D cA ad ad0 n0 A F G LL SS
  exact lv_ifnonnull F.1 F.2.1 h ht (kk p l e s m args below meth c H locs ls D cA ad ad0 n0 A F G LL (pm_St SS))
theorem pm_ifnonnullN {x : Nat} {off : Int} (h : decode M.2.1 pc = .ok (.ifnonnull off, 3)) (kk : pm_X gs ro M d mc ms c0 s0 (pc + 3) L st n w Q) : pm_X gs ro M d mc ms c0 s0 pc L (.null :: st) n w Q := by
  intro p l e s m args below meth c H locs ls D cA ad ad0 n0 A F G LL SS
  exact lv_ifnonnullN F.1 F.2.1 h (kk p l e s m args below meth c H locs ls D cA ad ad0 n0 A F G LL (pm_St SS))
theorem pm_lookup {dflt : Int} {ps : Array (Int × Int)} {len : Nat} {x : Int32} {off : Int} {tgt : Nat} (h : decode M.2.1 pc = .ok (.lookupswitch dflt ps, len)) (hp : (ps.toList.zip (ps.toList.drop 1)).all (fun (a, next) => a.1 < next.1) = true) (ho : Op.lookupswitch.offset ps.toList dflt x.toInt = off) (ht : (pc : Int) + off = (tgt : Int)) (kk : pm_X gs ro M d mc ms c0 s0 tgt L st n w Q) : pm_X gs ro M d mc ms c0 s0 pc L (.int x :: st) n w Q := by
  intro p l e s m args below meth c H locs ls D cA ad ad0 n0 A F G LL SS
  exact lv_lookup F.1 F.2.1 h hp ho ht (kk p l e s m args below meth c H locs ls D cA ad ad0 n0 A F G LL (pm_St SS))
theorem pm_tableOut {dflt lo hi : Int} {offs : Array Int} {len : Nat} {x : Int32} {tgt : Nat} (h : decode M.2.1 pc = .ok (.tableswitch dflt lo hi offs, len)) (hx : x.toInt < lo ∨ hi < x.toInt) (ht : (pc : Int) + dflt = (tgt : Int)) (kk : pm_X gs ro M d mc ms c0 s0 tgt L st n w Q) : pm_X gs ro M d mc ms c0 s0 pc L (.int x :: st) n w Q := by
  intro p l e s m args below meth c H locs ls D cA ad ad0 n0 A F G LL SS
  exact lv_tableOut F.1 F.2.1 h hx ht (kk p l e s m args below meth c H locs ls D cA ad ad0 n0 A F G LL (pm_St SS))
theorem pm_tableIn {dflt lo hi : Int} {offs : Array Int} {len : Nat} {x : Int32} {off : Int} {tgt : Nat} (h : decode M.2.1 pc = .ok (.tableswitch dflt lo hi offs, len)) (h1 : ¬ x.toInt < lo) (h2 : ¬ hi < x.toInt) (ho : offs[(x.toInt - lo).toNat]? = some off) (ht : (pc : Int) + off = (tgt : Int)) (kk : pm_X gs ro M d mc ms c0 s0 tgt L st n w Q) : pm_X gs ro M d mc ms c0 s0 pc L (.int x :: st) n w Q := by
  intro p l e s m args below meth c H locs ls D cA ad ad0 n0 A F G LL SS
  exact lv_tableIn F.1 F.2.1 h h1 h2 ho ht (kk p l e s m args below meth c H locs ls D cA ad ad0 n0 A F G LL (pm_St SS))
theorem pm_L_store {nL i n : Nat} {ls : Array Slot} {ad : Nat → Nat} {L : List (Option Value)} {v : Value} (h : pm_L nL ls ad n L) (hi : i < nL) (hc : v.category = 1) (hv : pm_ok n v) (h2 : ∀ (j : Nat) (u : Value), L[j]? = some (some u) → u.category = 1) : ∃ ls', storeLocals ls i (pm_v ad v) = some ls' ∧ pm_L nL ls' ad n (L.set i (some v)) := by
  have hh : lv_has ls nL ((List.range L.length).filterMap (fun j => match L[j]? with | some (some u) => some (j, pm_v ad u) | _ => none)) := by
    refine ⟨h.1, h.2.1, fun q hq => ?_⟩
    obtain ⟨j, -, hj⟩ := List.mem_filterMap.mp hq
    cases hL : L[j]? with
    | none => rw [hL] at hj; cases hj
    | some o =>
      cases o with
      | none => rw [hL] at hj; cases hj
      | some u => rw [hL] at hj; cases hj; exact (h.2.2 j u hL).1
  obtain ⟨ls', e', h'⟩ := lv_store1 (v := pm_v ad v) hh hi (by rw [pm_v_cat]; exact hc)
  refine ⟨ls', e', h'.1, h'.2.1, fun j u hj => ?_⟩
  by_cases q : i = j
  · subst q
    have hlt : i < L.length := by
      have := (List.getElem?_eq_some_iff.mp hj).1
      rwa [List.length_set] at this
    rw [List.getElem?_set_self hlt] at hj
    cases hj
    exact ⟨h'.2.2 _ List.mem_cons_self, hv⟩
  · rw [List.getElem?_set_ne q] at hj
    refine ⟨h'.2.2 (j, pm_v ad u) (List.mem_cons_of_mem _ (List.mem_filter.mpr ⟨List.mem_filterMap.mpr ⟨j, List.mem_range.mpr (List.getElem?_eq_some_iff.mp hj).1, by rw [hj]⟩, ?_⟩)), (h.2.2 j u hj).2⟩
    have hcu : (pm_v ad u).category = 1 := by rw [pm_v_cat]; exact h2 j u hj
    simp [hcu, Ne.symm q]
/-- no long stands among the locals -/
def pm_L1 (L : List (Option Value)) : Bool := L.all (fun o => match o with | some u => u.category == 1 | none => true)
theorem pm_L1_spec {L : List (Option Value)} (h : pm_L1 L = true) : ∀ (j : Nat) (u : Value), L[j]? = some (some u) → u.category = 1 := fun j u hj => by
  have := List.all_eq_true.mp h _ (List.mem_of_getElem? hj)
  simpa using this
theorem pm_istore {i : Nat} {x : Int32} {L' : List (Option Value)} (h : decode M.2.1 pc = .ok (.istore i, 2)) (hi : i < M.2.2.1) (h1 : pm_L1 L = true) (hL : L.set i (some (.int x)) = L') (kk : pm_X gs ro M d mc ms c0 s0 (pc + 2) L' st n w Q) : pm_X gs ro M d mc ms c0 s0 pc L (.int x :: st) n w Q := by
  intro p l e s m args below meth c H locs ls D cA ad ad0 n0 A F G LL SS
  subst hL
  obtain ⟨ls', e', h'⟩ := pm_L_store (v := .int x) LL hi rfl (pm_Sh SS) (pm_L1_spec h1)
  intro T hT X
  obtain ⟨t, a, b⟩ := kk p l e s m args below meth c H locs ls' D cA ad ad0 n0 A F G h' (pm_St SS) T hT X
  refine ⟨t, ?_, b⟩
  have e' : storeLocals ls i (.int x) = some ls' := e'
  show Steps p.tables e below (T.setTop (F0 m pc ls (.int x :: st.map (pm_v ad)))) t
  jvm_step X.here [X.here.top, ↓top_set X.here.top, F.1, F.2.1, h, e']
  exact a
theorem pm_istore_n {k : Fin 4} {x : Int32} {L' : List (Option Value)} (h : decode M.2.1 pc = .ok (.istore_n k, 1)) (hi : (k : Nat) < M.2.2.1) (h1 : pm_L1 L = true) (hL : L.set (k : Nat) (some (.int x)) = L') (kk : pm_X gs ro M d mc ms c0 s0 (pc + 1) L' st n w Q) : pm_X gs ro M d mc ms c0 s0 pc L (.int x :: st) n w Q := by
  intro p l e s m args below meth c H locs ls D cA ad ad0 n0 A F G LL SS
  subst hL
  obtain ⟨ls', e', h'⟩ := pm_L_store (v := .int x) LL hi rfl (pm_Sh SS) (pm_L1_spec h1)
  intro T hT X
  obtain ⟨t, a, b⟩ := kk p l e s m args below meth c H locs ls' D cA ad ad0 n0 A F G h' (pm_St SS) T hT X
  refine ⟨t, ?_, b⟩
  have e' : storeLocals ls (k : Nat) (.int x) = some ls' := e'
  show Steps p.tables e below (T.setTop (F0 m pc ls (.int x :: st.map (pm_v ad)))) t
  jvm_step X.here [X.here.top, ↓top_set X.here.top, F.1, F.2.1, h, e']
  exact a
theorem pm_astore {i : Nat} {x : Nat} {L' : List (Option Value)} (h : decode M.2.1 pc = .ok (.astore i, 2)) (hi : i < M.2.2.1) (h1 : pm_L1 L = true) (hL : L.set i (some (.ref x)) = L') (kk : pm_X gs ro M d mc ms c0 s0 (pc + 2) L' st n w Q) : pm_X gs ro M d mc ms c0 s0 pc L (.ref x :: st) n w Q := by
  intro p l e s m args below meth c H locs ls D cA ad ad0 n0 A F G LL SS
  subst hL
  obtain ⟨ls', e', h'⟩ := pm_L_store (v := .ref x) LL hi rfl (pm_Sh SS) (pm_L1_spec h1)
  intro T hT X
  obtain ⟨t, a, b⟩ := kk p l e s m args below meth c H locs ls' D cA ad ad0 n0 A F G h' (pm_St SS) T hT X
  refine ⟨t, ?_, b⟩
  have e' : storeLocals ls i (.ref (ad x)) = some ls' := e'
  show Steps p.tables e below (T.setTop (F0 m pc ls (.ref (ad x) :: st.map (pm_v ad)))) t
  jvm_step X.here [X.here.top, ↓top_set X.here.top, F.1, F.2.1, h, e', Value.isRef]
  exact a
theorem pm_astore_n {k : Fin 4} {x : Nat} {L' : List (Option Value)} (h : decode M.2.1 pc = .ok (.astore_n k, 1)) (hi : (k : Nat) < M.2.2.1) (h1 : pm_L1 L = true) (hL : L.set (k : Nat) (some (.ref x)) = L') (kk : pm_X gs ro M d mc ms c0 s0 (pc + 1) L' st n w Q) : pm_X gs ro M d mc ms c0 s0 pc L (.ref x :: st) n w Q := by
  intro p l e s m args below meth c H locs ls D cA ad ad0 n0 A F G LL SS
  subst hL
  obtain ⟨ls', e', h'⟩ := pm_L_store (v := .ref x) LL hi rfl (pm_Sh SS) (pm_L1_spec h1)
  intro T hT X
  obtain ⟨t, a, b⟩ := kk p l e s m args below meth c H locs ls' D cA ad ad0 n0 A F G h' (pm_St SS) T hT X
  refine ⟨t, ?_, b⟩
  have e' : storeLocals ls (k : Nat) (.ref (ad x)) = some ls' := e'
  show Steps p.tables e below (T.setTop (F0 m pc ls (.ref (ad x) :: st.map (pm_v ad)))) t
  jvm_step X.here [X.here.top, ↓top_set X.here.top, F.1, F.2.1, h, e', Value.isRef]
  exact a
theorem pm_astoreN {i : Nat} {L' : List (Option Value)} (h : decode M.2.1 pc = .ok (.astore i, 2)) (hi : i < M.2.2.1) (h1 : pm_L1 L = true) (hL : L.set i (some .null) = L') (kk : pm_X gs ro M d mc ms c0 s0 (pc + 2) L' st n w Q) : pm_X gs ro M d mc ms c0 s0 pc L (.null :: st) n w Q := by
  intro p l e s m args below meth c H locs ls D cA ad ad0 n0 A F G LL SS
  subst hL
  obtain ⟨ls', e', h'⟩ := pm_L_store (v := .null) LL hi rfl pm_okn (pm_L1_spec h1)
  intro T hT X
  obtain ⟨t, a, b⟩ := kk p l e s m args below meth c H locs ls' D cA ad ad0 n0 A F G h' (pm_St SS) T hT X
  refine ⟨t, ?_, b⟩
  have e' : storeLocals ls i .null = some ls' := e'
  show Steps p.tables e below (T.setTop (F0 m pc ls (.null :: st.map (pm_v ad)))) t
  jvm_step X.here [X.here.top, ↓top_set X.here.top, F.1, F.2.1, h, e', Value.isRef]
  exact a
theorem pm_astore_nN {k : Fin 4} {L' : List (Option Value)} (h : decode M.2.1 pc = .ok (.astore_n k, 1)) (hi : (k : Nat) < M.2.2.1) (h1 : pm_L1 L = true) (hL : L.set (k : Nat) (some .null) = L') (kk : pm_X gs ro M d mc ms c0 s0 (pc + 1) L' st n w Q) : pm_X gs ro M d mc ms c0 s0 pc L (.null :: st) n w Q := by
  intro p l e s m args below meth c H locs ls D cA ad ad0 n0 A F G LL SS
  subst hL
  obtain ⟨ls', e', h'⟩ := pm_L_store (v := .null) LL hi rfl pm_okn (pm_L1_spec h1)
  intro T hT X
  obtain ⟨t, a, b⟩ := kk p l e s m args below meth c H locs ls' D cA ad ad0 n0 A F G h' (pm_St SS) T hT X
  refine ⟨t, ?_, b⟩
  have e' : storeLocals ls (k : Nat) .null = some ls' := e'
  show Steps p.tables e below (T.setTop (F0 m pc ls (.null :: st.map (pm_v ad)))) t
  jvm_step X.here [X.here.top, ↓top_set X.here.top, F.1, F.2.1, h, e', Value.isRef]
  exact a
theorem pm_iinc {i : Nat} {k : Int} {x v : Int32} {L' : List (Option Value)} (h : decode M.2.1 pc = .ok (.iinc i k, 3)) (hx : L[i]? = some (some (.int x))) (hv : x + Int32.ofInt k = v) (hi : i < M.2.2.1) (h1 : pm_L1 L = true) (hL : L.set i (some (.int v)) = L') (kk : pm_X gs ro M d mc ms c0 s0 (pc + 3) L' st n w Q) : pm_X gs ro M d mc ms c0 s0 pc L st n w Q := by
  intro p l e s m args below meth c H locs ls D cA ad ad0 n0 A F G LL SS
  subst hL
  subst hv
  obtain ⟨ls', e', h'⟩ := pm_L_store (v := .int (x + Int32.ofInt k)) LL hi rfl pm_oki (pm_L1_spec h1)
  have hg : ls[i]? = some (.val (.int x)) := (LL.2.2 i _ hx).1
  intro T hT X
  obtain ⟨t, a, b⟩ := kk p l e s m args below meth c H locs ls' D cA ad ad0 n0 A F G h' SS T hT X
  refine ⟨t, ?_, b⟩
  have e' : storeLocals ls i (.int (x + Int32.ofInt k)) = some ls' := e'
  jvm_step X.here [X.here.top, ↓top_set X.here.top, F.1, F.2.1, h, hg, e']
  exact a
end PMR
