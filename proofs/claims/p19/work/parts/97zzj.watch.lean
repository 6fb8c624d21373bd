/-! what is watched (the first rows: from the kit's laws, BITS.to-paste) -/
def bt (x : Int32) (i : Nat) : Bool := x.toBitVec.getLsbD i
theorem b_ext {x y : Int32} (h : ∀ i, i < 32 → bt x i = bt y i) : x = y := Int32.toBitVec_inj.mp (BitVec.eq_of_getLsbD_eq (fun i hi => h i hi))
theorem b_or (x y : Int32) (i : Nat) : bt (x ||| y) i = (bt x i || bt y i) := by unfold bt; rw [Int32.toBitVec_or, BitVec.getLsbD_or]
theorem b_and (x y : Int32) (i : Nat) : bt (x &&& y) i = (bt x i && bt y i) := by unfold bt; rw [Int32.toBitVec_and, BitVec.getLsbD_and]
theorem b_xor (x y : Int32) (i : Nat) : bt (x ^^^ y) i = (bt x i ^^ bt y i) := by unfold bt; rw [Int32.toBitVec_xor, BitVec.getLsbD_xor]
theorem b_0 (i : Nat) : bt 0 i = false := BitVec.getLsbD_zero
theorem s_l : ∀ n, n < 32 → ((nI n &&& 31).toBitVec.smod 32).toNat = n := by decide +kernel
theorem b_shl (n : Nat) (hn : n < 32) (x : Int32) {i : Nat} (hi : i < 32) : bt (x <<< (nI n &&& 31)) i = (decide (n ≤ i) && bt x (i - n)) := by
  unfold bt
  rw [Int32.toBitVec_shiftLeft]
  show (x.toBitVec <<< ((nI n &&& 31).toBitVec.smod 32).toNat).getLsbD i = _
  rw [s_l n hn, BitVec.getLsbD_shiftLeft]
  rcases Nat.lt_or_ge i n with h | h
  · simp [h, Nat.not_le.mpr h]
  · simp [hi, h, Nat.not_lt.mpr h]
theorem b_sshr (n : Nat) (hn : n < 32) (x : Int32) {i : Nat} (hi : i < 32) : bt (x >>> (nI n &&& 31)) i = if n + i < 32 then bt x (n + i) else bt x 31 := by
  unfold bt
  rw [Int32.toBitVec_shiftRight]
  show (x.toBitVec.sshiftRight ((nI n &&& 31).toBitVec.smod 32).toNat).getLsbD i = _
  rw [s_l n hn, BitVec.getLsbD_sshiftRight, BitVec.msb_eq_getLsbD_last]
  simp [hi]
theorem b_1 : ∀ i, i < 32 → bt 1 i = decide (i = 0) := by decide +kernel
theorem bt_and1 {x : Int32} : (x &&& 1) = if bt x 0 = true then 1 else 0 := by
  refine b_ext fun i hi => ?_
  rw [b_and, b_1 i hi]
  by_cases q : bt x 0 = true
  · rw [if_pos q, b_1 i hi]
    by_cases z : i = 0
    · rw [z, q]; rfl
    · rw [show decide (i = 0) = false from decide_eq_false z, Bool.and_false]
  · rw [if_neg q, b_0]
    by_cases z : i = 0
    · rw [z, (Bool.not_eq_true _).mp q, Bool.false_and]
    · rw [show decide (i = 0) = false from decide_eq_false z, Bool.and_false]
theorem bt_shr {x : Int32} {k : Nat} (hk : k < 32) : (dx_shr x (nI k) &&& 1) = 1 ↔ bt x k = true := by
  show ((x >>> (nI k &&& 31)) &&& 1) = 1 ↔ _
  rw [bt_and1, b_sshr k hk x (by omega), if_pos (c := k + 0 < 32) (by omega), Nat.add_zero]
  by_cases q : bt x k = true
  · rw [if_pos q]; exact ⟨fun _ => q, fun _ => rfl⟩
  · rw [if_neg q]; exact ⟨fun z => absurd z (by decide), fun z => absurd z q⟩
theorem bt_shl {k i : Nat} (hk : k < 32) (hi : i < 32) : bt (dx_shl 1 (nI k)) i = decide (i = k) := by
  show bt ((1 : Int32) <<< (nI k &&& 31)) i = _
  rw [b_shl k hk 1 hi, b_1 (i - k) (by omega)]
  by_cases q : i = k
  · rw [q, Nat.sub_self]; simp
  · rw [show decide (i = k) = false from decide_eq_false q]
    by_cases z : k ≤ i
    · rw [show decide (i - k = 0) = false from decide_eq_false (by omega), Bool.and_false]
    · rw [show decide (k ≤ i) = false from decide_eq_false z, Bool.false_and]
theorem wtB_bit {u : rg_U} {a i : Nat} (hi : i < 32) : ∀ n, n ≤ 32 → bt (wtB u a n) i = decide (i < n ∧ ¬ u.2.1 30 (a + i) = 0)
  | 0, _ => by
    show bt 0 i = _
    rw [b_0]
    exact (decide_eq_false (by omega)).symm
  | n + 1, hn => by
    show bt (wtB u a n ||| (if u.2.1 30 (a + n) = 0 then 0 else dx_shl 1 (nI n))) i = _
    rw [b_or, wtB_bit hi n (by omega)]
    by_cases q : i = n
    · subst q
      rw [show decide (i < i ∧ ¬ u.2.1 30 (a + i) = 0) = false from decide_eq_false (by omega), Bool.false_or]
      by_cases z : u.2.1 30 (a + i) = 0
      · rw [if_pos z, b_0]
        exact (decide_eq_false (fun y => y.2 z)).symm
      · rw [if_neg z, bt_shl (by omega) hi]
        rw [show decide (i = i) = true from decide_eq_true rfl]
        exact (decide_eq_true ⟨Nat.lt_succ_self i, z⟩).symm
    · have e : bt (if u.2.1 30 (a + n) = 0 then 0 else dx_shl 1 (nI n)) i = false := by
        by_cases z : u.2.1 30 (a + n) = 0
        · rw [if_pos z, b_0]
        · rw [if_neg z, bt_shl (by omega) hi]
          exact decide_eq_false q
      rw [e, Bool.or_false]
      by_cases z : i < n ∧ ¬ u.2.1 30 (a + i) = 0
      · rw [decide_eq_true z, decide_eq_true (show i < n + 1 ∧ ¬ u.2.1 30 (a + i) = 0 from ⟨by omega, z.2⟩)]
      · rw [decide_eq_false z, decide_eq_false (fun y => z ⟨by omega, y.2⟩)]
theorem wtB_c {u u' : rg_U} {a : Nat} (h : u'.2.1 30 = u.2.1 30) : ∀ n, wtB u' a n = wtB u a n
  | 0 => rfl
  | n + 1 => by
    unfold wtB
    rw [h, wtB_c h n]
/-- a place is watched, or no more -/
theorem wtB_x {u : rg_U} {a k n : Nat} {y : Int32} (hn : n ≤ 32) (hk : k < n) (hy : y = 0 ∨ y = 1) (h1 : u.2.1 30 (a + k) = 0 ∨ u.2.1 30 (a + k) = 1) (h : ¬ u.2.1 30 (a + k) = y) : wtB (rg_R u 30 (a + k) y) a n = wtB u a n ^^^ dx_shl 1 (nI k) := by
  refine b_ext fun i hi => ?_
  rw [b_xor, wtB_bit hi n hn, wtB_bit hi n hn, bt_shl (by omega) hi, R_s]
  by_cases q : i = k
  · subst q
    rw [pk_us, show decide (i = i) = true from decide_eq_true rfl]
    have e : (¬ y = 0) ↔ u.2.1 30 (a + i) = 0 := by
      rcases hy with rfl | rfl <;> rcases h1 with z | z
      · exact absurd z h
      · rw [z]; exact ⟨fun w => absurd rfl w, fun w => absurd w (by decide)⟩
      · rw [z]; exact ⟨fun _ => rfl, fun _ => by decide⟩
      · exact absurd z h
    by_cases z : u.2.1 30 (a + i) = 0
    · rw [decide_eq_true (show i < n ∧ ¬ y = 0 from ⟨hk, e.mpr z⟩), decide_eq_false (fun w => w.2 z)]
      rfl
    · rw [decide_eq_false (fun w => z (e.mp w.2)), decide_eq_true (show i < n ∧ ¬ u.2.1 30 (a + i) = 0 from ⟨hk, z⟩)]
      rfl
  · rw [pk_un (by omega), show decide (i = k) = false from decide_eq_false q, Bool.xor_false]
theorem wtB_o {u : rg_U} {a p : Nat} {y : Int32} : ∀ n, (∀ k, k < n → a + k ≠ p) → wtB (rg_R u 30 p y) a n = wtB u a n
  | 0, _ => rfl
  | n + 1, h => by
    unfold wtB
    rw [wtB_o n (fun k hk => h k (by omega)), R_s, pk_un (h n (by omega))]
def WR (uc um : rg_U) : Prop := rF uc 0 11 = wtB um 0 8 ∧ rF uc 0 12 = wtB um 8 32
section YB
variable {F p k : Nat} {uc um um' : rg_U}
theorem c_isWatched (h : WR uc um) (h01 : ∀ p, p < 40 → um.2.1 30 p = 0 ∨ um.2.1 30 p = 1) (hp : p < 40) : g_X9_isWatched F (nI p) uc = some (um.2.1 30 p) := by
  unfold g_X9_isWatched
  rw [if_neg (by rw [cl_place]; exact in_nI (a := 0) (b := 39) (by omega) (by omega) (by decide)), h.1, h.2]
  have fin : ∀ (a n k : Nat), n ≤ 32 → k < n → a + k = p → (if (dx_shr (wtB um a n) (nI k) &&& 1) = 1 then some (1 : Int32) else some 0) = some (um.2.1 30 p) := by
    intro a n k hn hk e
    by_cases z : um.2.1 30 p = 0
    · rw [if_neg, z]
      rw [bt_shr (by omega), wtB_bit (by omega) n hn, e]
      intro w
      exact absurd (of_decide_eq_true w).2 (fun y => y z)
    · rw [if_pos, (h01 p hp).resolve_left z]
      rw [bt_shr (by omega), wtB_bit (by omega) n hn, e]
      exact decide_eq_true ⟨hk, z⟩
  by_cases q : p < 8
  · rw [if_neg (show ¬ (8 : Int32) ≤ nI p from nI_ge (a := p) (b := 8) q (by decide))]
    exact fin 0 8 p (by omega) q (by omega)
  · rw [if_pos (show (8 : Int32) ≤ nI p from nI_le (a := 8) (b := p) (by omega) (by omega)), show nI p - 8 = nI (p - 8) from nI_sub (a := p) (b := 8) (by omega)]
    exact fin 8 32 (p - 8) (by omega) (by omega) (by omega)
theorem c_notWatched : g_X9_isWatched F (-1) uc = some 0 := by
  unfold g_X9_isWatched
  rw [if_pos (by decide)]
theorem wcS_same (h30 : um'.2.1 30 = um.2.1 30) (h : ∀ p, p < 40 → um'.2.1 28 (80 + p) = um.2.1 28 (80 + p)) : ∀ k, k ≤ 40 → wcS um' k = wcS um k
  | 0, _ => rfl
  | k + 1, hk => by
    unfold wcS
    rw [wcS_same h30 h k (by omega), h30, h k (by omega)]
theorem wcS_one (h30 : um'.2.1 30 = um.2.1 30) (h : ∀ q, q < 40 → q ≠ p → um'.2.1 28 (80 + q) = um.2.1 28 (80 + q)) (h1 : um'.2.1 28 (80 + p) = um.2.1 28 (80 + p) + 1) : ∀ k, k ≤ 40 → wcS um' k = wcS um k + (if p < k ∧ ¬ um.2.1 30 p = 0 then 1 else 0)
  | 0, _ => by rw [if_neg (by omega)]; rfl
  | k + 1, hk => by
    unfold wcS
    rw [wcS_one h30 h h1 k (by omega), h30]
    by_cases q : p = k
    · subst q
      rw [if_neg (c := p < p ∧ ¬ um.2.1 30 p = 0) (fun z => by omega), Int32.add_zero]
      by_cases z : um.2.1 30 p = 0
      · simp only [if_pos z]
        rw [if_neg (c := p < p + 1 ∧ ¬ um.2.1 30 p = 0) (fun y => y.2 z), Int32.add_zero, Int32.add_zero]
      · simp only [if_neg z]
        rw [if_pos (c := p < p + 1 ∧ ¬ um.2.1 30 p = 0) ⟨by omega, z⟩, h1, Int32.add_assoc]
    · rw [h k (by omega) (by omega)]
      by_cases z : p < k ∧ ¬ um.2.1 30 p = 0
      · rw [if_pos (c := p < k ∧ ¬ um.2.1 30 p = 0) z, if_pos (c := p < k + 1 ∧ ¬ um.2.1 30 p = 0) ⟨by omega, z.2⟩]
        generalize (if um.2.1 30 k = 0 then 0 else um.2.1 28 (80 + k)) = y
        rw [Int32.add_assoc, Int32.add_comm 1 y, ← Int32.add_assoc]
      · rw [if_neg (c := p < k ∧ ¬ um.2.1 30 p = 0) z, if_neg (c := p < k + 1 ∧ ¬ um.2.1 30 p = 0) (fun y => z ⟨by omega, y.2⟩), Int32.add_zero, Int32.add_zero]
end YB
