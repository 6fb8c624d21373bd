section W_1
-- 84.base
/-! PURE: words for what follows -/
theorem ck_t {α : Type} {p : Prop} [Decidable p] {a : Option α} (h : p) : ck p a = a := if_pos h
theorem ob_i {α β : Type} {y : α} {f : α → Option β} : ob (some y) f = f y := rfl
theorem ob_e {α β : Type} {x : Option α} {y : α} {f : α → Option β} (h : x = some y) : ob x f = f y := by rw [h]; rfl
theorem om_i {α β : Type} {y : α} {a : Option β} {f : α → Option β} : om (some y) a f = f y := rfl
theorem om_0 {α β : Type} {a : Option β} {f : α → Option β} : om (none : Option α) a f = a := rfl
theorem lt1_i {α β : Type} {x : α} {f : α → β} : lt1 x f = f x := rfl
theorem inb_nI {k N : Nat} (h : k < N) (hN : N < 2 ^ 31) : inb (nI k) N := by
  unfold inb
  rw [nI_toInt (by omega)]
  omega
theorem inb_of {x : Int32} {N : Nat} (h : inb x N) (hN : N < 2 ^ 31) : ∃ k : Nat, k < N ∧ x = nI k := vp_in_of (vp_in_iff.mpr h) hN
theorem lp_ex {σ ρ : Type} {body : σ → Option (σ ⊕ ρ)} {P : Nat → σ → Prop} {R : ρ → Prop} (h : ∀ k s, P k s → (∃ s' k', body s = some (.inl s') ∧ k' < k ∧ P k' s') ∨ ∃ r, body s = some (.inr r) ∧ R r) : ∀ (f k : Nat) (s : σ), k < f → P k s → ∃ r, lp body f s = some r ∧ R r
  | 0, k, s, h1, h2 => by omega
  | f + 1, k, s, h1, h2 => by
    rcases h k s h2 with ⟨s', k', e, hk, hP⟩ | ⟨r, e, hR⟩
    · obtain ⟨r, e2, hR⟩ := lp_ex h f k' s' (by omega) hP
      refine ⟨r, ?_, hR⟩
      unfold lp
      rw [e]
      exact e2
    · refine ⟨r, ?_, hR⟩
      unfold lp
      rw [e]
theorem rF_sF {u : rg_U} {j s j' s' : Nat} {v : Int32} : rF (sF u j s v) j' s' = if 100 * j' + s' = 100 * j + s then v else rF u j' s' := rfl
theorem rF_sA {u : rg_U} {j j' s' : Nat} {i v : Int32} : rF (sA u j i v) j' s' = rF u j' s' := rfl
theorem rF_sZ {u : rg_U} {j j' s' : Nat} {i v : Int32} : rF (sZ u j i v) j' s' = rF u j' s' := rfl
theorem rF_sG {u : rg_U} {j s j' s' : Nat} {v : Option Nat} : rF (sG u j s v) j' s' = rF u j' s' := rfl
theorem rA_sF {u : rg_U} {j s j' : Nat} {v i : Int32} : rA (sF u j s v) j' i = rA u j' i := rfl
theorem rA_sG {u : rg_U} {j s j' : Nat} {v : Option Nat} {i : Int32} : rA (sG u j s v) j' i = rA u j' i := rfl
theorem rG_sF {u : rg_U} {j s j' s' : Nat} {v : Int32} : rG (sF u j s v) j' s' = rG u j' s' := rfl
theorem rG_sA {u : rg_U} {j j' s' : Nat} {i v : Int32} : rG (sA u j i v) j' s' = rG u j' s' := rfl
theorem rQ_sF {u : rg_U} {j s j' : Nat} {v i : Int32} : rQ (sF u j s v) j' i = rQ u j' i := rfl
theorem rA_sA {u : rg_U} {j j' : Nat} {i i' v : Int32} : rA (sA u j i v) j' i' = if j' = j then (if i'.toNatClampNeg = i.toNatClampNeg then v else rA u j i') else rA u j' i' := by
  unfold rA sA rg_R va_up upd
  dsimp only
  by_cases h : j' = j
  · rw [if_pos h, if_pos h]
  · rw [if_neg h, if_neg h]
theorem in_iff {v lo hi : Int32} : g_X10_isIn v lo hi = if lo ≤ v ∧ v ≤ hi then 1 else 0 := by
  unfold g_X10_isIn
  simp only [Int32.lt_iff_toInt_lt, Int32.le_iff_toInt_le]
  by_cases h : v.toInt < lo.toInt
  · rw [if_pos h, if_neg (by omega)]
  · rw [if_neg h]
    by_cases h2 : hi.toInt < v.toInt
    · rw [if_pos h2, if_neg (by omega)]
    · rw [if_neg h2, if_pos (by omega)]
theorem in_0 {v lo hi : Int32} : g_X10_isIn v lo hi = 0 ↔ ¬ (lo ≤ v ∧ v ≤ hi) := by
  rw [in_iff]
  by_cases h : lo ≤ v ∧ v ≤ hi
  · rw [if_pos h]; exact ⟨fun q => absurd q (by decide), fun q => absurd h q⟩
  · rw [if_neg h]; exact ⟨fun _ => h, fun _ => rfl⟩
theorem in_1 {v lo hi : Int32} : g_X10_isIn v lo hi = 1 ↔ lo ≤ v ∧ v ≤ hi := by
  rw [in_iff]
  by_cases h : lo ≤ v ∧ v ≤ hi
  · rw [if_pos h]; exact ⟨fun _ => h, fun _ => rfl⟩
  · rw [if_neg h]; exact ⟨fun q => absurd q (by decide), fun q => absurd q h⟩
theorem in_b {v lo hi : Int32} : g_X10_isIn v lo hi = 0 ∨ g_X10_isIn v lo hi = 1 := by
  rw [in_iff]
  by_cases h : lo ≤ v ∧ v ≤ hi
  · rw [if_pos h]; exact Or.inr rfl
  · rw [if_neg h]; exact Or.inl rfl
/-- a number between two that are not below 0 -/
theorem in_nat {v lo hi : Int32} (h : ¬ g_X10_isIn v lo hi = 0) (h0 : 0 ≤ lo.toInt) : ∃ K : Nat, v = nI K ∧ lo.toInt ≤ (K : Int) ∧ (K : Int) ≤ hi.toInt := by
  have h1 : lo ≤ v ∧ v ≤ hi := Classical.byContradiction fun q => h (in_0.mpr q)
  rw [Int32.le_iff_toInt_le, Int32.le_iff_toInt_le] at h1
  obtain ⟨K, hK, hv⟩ := nI_of (x := v) (by rw [Int32.lt_iff_toInt_lt]; have : (0 : Int32).toInt = 0 := rfl; omega)
  refine ⟨K, hv, ?_, ?_⟩
  · have := nI_toInt hK; rw [hv, this] at h1; omega
  · have := nI_toInt hK; rw [hv, this] at h1; omega
theorem in_nI {K a b : Nat} (h1 : a ≤ K) (h2 : K ≤ b) (hb : b < 2 ^ 31) : ¬ g_X10_isIn (nI K) (nI a) (nI b) = 0 := by
  rw [in_0]
  exact fun q => q ⟨nI_le h1 (by omega), nI_le h2 hb⟩
/-- the class's words for the same -/
theorem cl_place {x : Int32} : g_X9_isPlace x = g_X10_isPlace x := by
  unfold g_X9_isPlace g_X10_isPlace g_X10_isIn
  have e : (40 : Int32) ≤ x ↔ (39 : Int32) < x := by
    rw [Int32.lt_iff_toInt_lt, Int32.le_iff_toInt_le]
    have h1 : (40 : Int32).toInt = 40 := rfl
    have h2 : (39 : Int32).toInt = 39 := rfl
    omega
  simp only [e]
theorem cl_ipl {x : Int32} : g_X9_isInstructionPlace x = g_X10_isIn x 0 63 := by
  unfold g_X9_isInstructionPlace g_X10_isIn
  have e : (64 : Int32) ≤ x ↔ (63 : Int32) < x := by
    rw [Int32.lt_iff_toInt_lt, Int32.le_iff_toInt_le]
    have h1 : (64 : Int32).toInt = 64 := rfl
    have h2 : (63 : Int32).toInt = 63 := rfl
    omega
  simp only [e]
theorem cl_reg {x : Int32} : (if x < 0 then (0 : Int32) else if 8 ≤ x then 0 else 1) = g_X10_isRegister x := by
  unfold g_X10_isRegister g_X10_isIn
  have e : (8 : Int32) ≤ x ↔ (7 : Int32) < x := by
    rw [Int32.lt_iff_toInt_lt, Int32.le_iff_toInt_le]
    have h1 : (8 : Int32).toInt = 8 := rfl
    have h2 : (7 : Int32).toInt = 7 := rfl
    omega
  simp only [e]
theorem cl_flag {x : Int32} : (if x = 0 then (1 : Int32) else if x = 1 then 1 else 0) = g_X10_isIn x 0 1 := by
  by_cases h0 : x = 0
  · subst h0; decide
  · by_cases h1 : x = 1
    · subst h1; decide
    · rw [if_neg h0, if_neg h1, eq_comm, in_0]
      rintro ⟨q1, q2⟩
      rw [Int32.le_iff_toInt_le] at q1 q2
      have e1 : (1 : Int32).toInt = 1 := rfl
      have e0 : (0 : Int32).toInt = 0 := rfl
      rcases (show x.toInt = 0 ∨ x.toInt = 1 by omega) with q | q
      · exact h0 (Int32.toInt_inj.mp q)
      · exact h1 (Int32.toInt_inj.mp q)
theorem cl_unit {x : Int32} : g_X9_isUnit x = g_X10_isIn x 1 64 := rfl
theorem cl_depth {x : Int32} : g_X9_isDepth x = g_X10_isIn x 1 8 := rfl
theorem cl_time {x : Int32} : g_X9_isAnyTime x = g_X10_isIn x 0 3000 := rfl
theorem cl_value {s x : Int32} : g_X9_isValue s x = g_X10_isValue s x := by
  unfold g_X9_isValue g_X10_isValue
  by_cases h0 : s = 0
  · rw [if_pos h0, if_pos h0]
  · rw [if_neg h0, if_neg h0, cl_flag]
theorem sp_iff {x y : Int32} : g_X10_isSpacing x y = if g_X10_isIn x 1 64 = 0 then 0 else g_X10_isIn y 1 8 := by
  unfold g_X10_isSpacing
  by_cases h : g_X10_isIn x 1 64 = 0
  · rw [if_pos h, if_pos h]
  · rw [if_neg h, if_neg h]
    rcases in_b (v := y) (lo := 1) (hi := 8) with q | q
    · rw [q]; rfl
    · rw [q]; rfl
def tzf : Nat → Nat → Nat
  | 0, _ => 0
  | f + 1, k => if k % 2 = 1 then 0 else tzf f (k / 2) + 1
def tz (k : Nat) : Nat := tzf 31 k
theorem tzf_spec : ∀ (f k : Nat), 0 < k → k < 2 ^ f → (∀ y, y < tzf f k → k / 2 ^ y % 2 = 0) ∧ k / 2 ^ tzf f k % 2 = 1 ∧ tzf f k < f
  | 0, k, h0, h1 => by simp at h1; omega
  | f + 1, k, h0, h1 => by
    unfold tzf
    by_cases h : k % 2 = 1
    · rw [if_pos h]
      exact ⟨fun y hy => absurd hy (Nat.not_lt_zero y), by simpa using h, Nat.succ_pos f⟩
    · rw [if_neg h]
      have h2 : 0 < k / 2 := by omega
      have h3 : k / 2 < 2 ^ f := by rw [Nat.pow_succ] at h1; omega
      obtain ⟨a1, a2, a3⟩ := tzf_spec f (k / 2) h2 h3
      refine ⟨fun y hy => ?_, ?_, by omega⟩
      · cases y with
        | zero => simp; omega
        | succ y =>
          have := a1 y (by omega)
          rwa [Nat.div_div_eq_div_mul, Nat.mul_comm, ← Nat.pow_succ] at this
      · rw [Nat.pow_succ, Nat.mul_comm, ← Nat.div_div_eq_div_mul]
        exact a2
theorem tz_spec {k : Nat} (h0 : 0 < k) (h1 : k < 2 ^ 31) : (∀ y, y < tz k → k / 2 ^ y % 2 = 0) ∧ k / 2 ^ tz k % 2 = 1 ∧ tz k < 31 := tzf_spec 31 k h0 h1
theorem bit_at {k z : Nat} (hk : k < 2 ^ 31) (hz : z < 32) : (nI k >>> (nI z &&& 31)) &&& 1 = nI (k / 2 ^ z % 2) := by
  have h1 : ∀ n, n < 32 → ((nI n &&& 31).toBitVec.smod 32).toNat = n := by decide +kernel
  rw [pk_shrN hk (nI z &&& 31) z (h1 z hz)]
  have := pk_andN (n := k / 2 ^ z) (m := 1) (by have := Nat.div_le_self k (2 ^ z); omega) 1 (by decide)
  simpa using this
def gw (k d : Nat) : Nat := k + d * 2 ^ tz k
theorem tz_le {k : Nat} (h0 : 0 < k) (h1 : k < 2 ^ 31) : 2 ^ tz k ≤ k := by
  have h := (tz_spec h0 h1).2.1
  rcases Nat.lt_or_ge k (2 ^ tz k) with q | q
  · rw [Nat.div_eq_of_lt q] at h; cases h
  · exact q
theorem gw_le {k d : Nat} (h0 : 0 < k) (hk : k ≤ 3000) (hd : d ≤ 8) : gw k d ≤ 27000 := by
  have h1 := tz_le h0 (by omega : k < 2 ^ 31)
  unfold gw
  have h2 : d * 2 ^ tz k ≤ 8 * 3000 := Nat.mul_le_mul hd (by omega)
  omega
theorem shl_tz {k d : Nat} (h0 : 0 < k) (hk : k ≤ 3000) (hd : d ≤ 8) : nI d <<< (nI (tz k) &&& 31) = nI (d * 2 ^ tz k) := by
  have h1 : ∀ n, n < 32 → ((nI n &&& 31).toBitVec.smod 32).toNat = n := by decide +kernel
  have h2 := tz_le h0 (by omega : k < 2 ^ 31)
  have h3 : d * 2 ^ tz k ≤ 8 * 3000 := Nat.mul_le_mul hd (by omega)
  exact pk_shlN _ _ (h1 _ (by have := (tz_spec h0 (by omega : k < 2 ^ 31)).2.2; omega)) (by omega)
def wb (k now d : Nat) : Bool := k == 0 || decide (now < gw k d)
def wc (now d : Nat) : Nat → Nat
  | 0 => 0
  | k + 1 => wc now d k + (if wb k now d then 1 else 0)
theorem wc_le (now d k : Nat) : wc now d k ≤ k := by
  induction k with
  | zero => exact Nat.le_refl _
  | succ k ih => unfold wc; split <;> omega
def gp (U E T : Nat) : Nat → Nat × Nat
  | 0 => (0, 0)
  | k + 1 => (max (gp U E T k).1 (k - (if k % U = 0 ∧ wb (k / U) (T / U) E = true then k else (gp U E T k).2)), if k % U = 0 ∧ wb (k / U) (T / U) E = true then k else (gp U E T k).2)
theorem gp_le (U E T k : Nat) : (gp U E T k).1 ≤ k ∧ (gp U E T k).2 ≤ k := by
  induction k with
  | zero => exact ⟨Nat.le_refl _, Nat.le_refl _⟩
  | succ k ih =>
    unfold gp
    dsimp only
    split <;> constructor <;> omega
theorem gp_yes {U E T k : Nat} (h : k % U = 0) (h2 : wb (k / U) (T / U) E = true) : gp U E T (k + 1) = (max (gp U E T k).1 (k - k), k) := by
  show (max (gp U E T k).1 (k - (if k % U = 0 ∧ wb (k / U) (T / U) E = true then k else (gp U E T k).2)), if k % U = 0 ∧ wb (k / U) (T / U) E = true then k else (gp U E T k).2) = _
  rw [if_pos ⟨h, h2⟩]
theorem gp_no {U E T k : Nat} (h : ¬ (k % U = 0 ∧ wb (k / U) (T / U) E = true)) : gp U E T (k + 1) = (max (gp U E T k).1 (k - (gp U E T k).2), (gp U E T k).2) := by
  show (max (gp U E T k).1 (k - (if k % U = 0 ∧ wb (k / U) (T / U) E = true then k else (gp U E T k).2)), if k % U = 0 ∧ wb (k / U) (T / U) E = true then k else (gp U E T k).2) = _
  rw [if_neg h]
theorem nI_max {a b : Nat} (ha : a < 2 ^ 31) (hb : b < 2 ^ 31) : (if nI a < nI b then nI b else nI a) = nI (max a b) := by
  by_cases h : a < b
  · rw [if_pos (nI_lt h hb), Nat.max_eq_right (by omega)]
  · rw [if_neg (nI_nlt (by omega) ha), Nat.max_eq_left (by omega)]
theorem nI_nz {a : Nat} (h : ¬ nI a = 0) : ¬ a = 0 := fun q => h (by rw [q]; rfl)
theorem nI_zz {a : Nat} (h : nI a = 0) (ha : a < 2 ^ 31) : a = 0 := by
  rcases Nat.eq_zero_or_pos a with q | q
  · exact q
  · exact absurd h (nI_ne0 q ha)
def spf (E T : Nat) (y : Int32) : Nat → Nat → Int32
  | 0, _ => -1
  | f + 1, U => if nI (wc (T / U) E (T / U + 1)) ≤ y then nI U else spf E T y f (U + 1)
theorem lowbit2 : ∀ a, a < 55 → ∀ b, b < 55 → 0 < 55 * a + b → nI (55 * a + b) &&& -nI (55 * a + b) = nI (2 ^ tz (55 * a + b)) := by decide +kernel
theorem lowbit (K : Nat) (h : K < 3001) (h0 : 0 < K) : nI K &&& -nI K = nI (2 ^ tz K) := by
  have := lowbit2 (K / 55) (by omega) (K % 55) (by omega)
  rw [Nat.div_add_mod] at this
  exact this h0
theorem wc_no {now e k : Nat} (h : wb k now e = false) : wc now e (k + 1) = wc now e k := by
  show wc now e k + (if wb k now e then 1 else 0) = _
  simp [h]
theorem wc_yes {now e k : Nat} (h : wb k now e = true) : wc now e (k + 1) = wc now e k + 1 := by
  show wc now e k + (if wb k now e then 1 else 0) = _
  simp [h]
theorem wb_pos {k now e : Nat} (h : 0 < k) : wb k now e = decide (now < gw k e) := by
  have : (k == 0) = false := by simp; omega
  simp [wb, this]
def cg (U E N : Nat) : Nat → Nat × Nat
  | 0 => (0, 0)
  | k + 1 => if wb (k + 1) N E = true then (max (cg U E N k).1 ((k + 1) * U - 1 - (cg U E N k).2), (k + 1) * U) else cg U E N k
theorem cg_le (U E N k : Nat) : (cg U E N k).1 ≤ k * U ∧ (cg U E N k).2 ≤ k * U := by
  induction k with
  | zero => exact ⟨Nat.zero_le _, Nat.zero_le _⟩
  | succ k ih =>
    have hk : k * U ≤ (k + 1) * U := Nat.mul_le_mul_right U (Nat.le_succ k)
    unfold cg
    split
    · exact ⟨by dsimp only; omega, Nat.le_refl _⟩
    · exact ⟨Nat.le_trans ih.1 hk, Nat.le_trans ih.2 hk⟩
theorem cg_yes {U E N k : Nat} (h : wb (k + 1) N E = true) : cg U E N (k + 1) = (max (cg U E N k).1 ((k + 1) * U - 1 - (cg U E N k).2), (k + 1) * U) := by
  show (if wb (k + 1) N E = true then _ else _) = _
  rw [if_pos h]
theorem cg_no {U E N k : Nat} (h : wb (k + 1) N E = false) : cg U E N (k + 1) = cg U E N k := by
  show (if wb (k + 1) N E = true then _ else _) = _
  rw [if_neg (by rw [h]; decide)]
theorem gp_run {U E T B a s : Nat} (ha : a ≤ s) (hs : gp U E T (s + 1) = (max B (s - a), a)) : ∀ j, (∀ i, i < j → ¬ ((s + 1 + i) % U = 0 ∧ wb ((s + 1 + i) / U) (T / U) E = true)) → gp U E T (s + 1 + j) = (max B (s + j - a), a)
  | 0, _ => hs
  | j + 1, h => by
    have ih := gp_run ha hs j (fun i hi => h i (by omega))
    rw [show s + 1 + (j + 1) = (s + 1 + j) + 1 by omega, gp_no (h j (Nat.lt_succ_self j)), ih]
    congr 1
    simp only [Nat.max_def]
    repeat' split
    all_goals omega
theorem gp_cg {U E T : Nat} (hU : 0 < U) : ∀ k, gp U E T (k * U + 1) = (max (cg U E (T / U) k).1 (k * U - (cg U E (T / U) k).2), (cg U E (T / U) k).2)
  | 0 => by
    rw [Nat.zero_mul]
    show gp U E T (0 + 1) = _
    rw [gp_yes (Nat.zero_mod U) (by rw [Nat.zero_div]; rfl)]
    rfl
  | k + 1 => by
    have ih := gp_cg (E := E) (T := T) hU k
    have hle := (cg_le U E (T / U) k).2
    have hm : (k + 1) * U = k * U + U := Nat.succ_mul k U
    have h1 := gp_run hle ih (U - 1) (fun i hi q => by
      have e1 : (k * U + 1 + i) % U = (1 + i) % U := by rw [show k * U + 1 + i = (1 + i) + k * U by omega, Nat.add_mul_mod_self_right]
      rw [e1, Nat.mod_eq_of_lt (by omega)] at q
      omega)
    have e2 : k * U + 1 + (U - 1) = (k + 1) * U := by omega
    rw [e2] at h1
    have hd : (k + 1) * U / U = k + 1 := Nat.mul_div_cancel _ hU
    have hr : (k + 1) * U % U = 0 := Nat.mul_mod_left _ _
    cases hw : wb (k + 1) (T / U) E with
    | true =>
      rw [gp_yes hr (by rw [hd]; exact hw), h1, cg_yes hw]
      congr 1
      simp only [Nat.max_def]
      repeat' split
      all_goals omega
    | false =>
      rw [gp_no (fun q => by rw [hd, hw] at q; exact absurd q.2 (by decide)), h1, cg_no hw]
      congr 1
      simp only [Nat.max_def]
      repeat' split
      all_goals omega
theorem gap_n {U E T : Nat} (hU : 0 < U) : (gp U E T (T + 1)).1 = max (cg U E (T / U) (T / U)).1 (T - (cg U E (T / U) (T / U)).2) := by
  have hle := (cg_le U E (T / U) (T / U)).2
  have hq := Nat.div_mul_le_self T U
  have h0 : T / U * U + T % U = T := by rw [Nat.mul_comm]; exact Nat.div_add_mod T U
  have hl := Nat.mod_lt T hU
  have h1 := gp_run hle (gp_cg (E := E) (T := T) hU (T / U)) (T % U) (fun i hi q => by
    have e1 : (T / U * U + 1 + i) % U = (1 + i) % U := by rw [show T / U * U + 1 + i = (1 + i) + T / U * U by omega, Nat.add_mul_mod_self_right]
    rw [e1, Nat.mod_eq_of_lt (by omega)] at q
    omega)
  rw [show T / U * U + 1 + T % U = T + 1 by omega, show T / U * U + T % U = T from h0] at h1
  rw [h1]
end W_1
section W_2
-- 85.small
/-! code: which instructions can be -/
theorem ft0 {x : Int32} : g_X9_fits 0 x = 1 := rfl
theorem ft1 {x : Int32} : g_X9_fits 1 x = g_X10_isRegister x := cl_reg
theorem ft2 {x : Int32} : g_X9_fits 2 x = g_X10_isIn x 0 63 := cl_ipl
theorem ft3 {x : Int32} : g_X9_fits 3 x = g_X10_isIn x 0 1 := cl_flag
theorem ft4 {x : Int32} : g_X9_fits 4 x = g_X10_isIn x 1 1000 := rfl
theorem bz {x : Int32} (h : x = 0 ∨ x = 1) : (if x = 0 then (0 : Int32) else 1) = x := by
  rcases h with q | q <;> subst q <;> rfl
theorem rg_b {x : Int32} : g_X10_isRegister x = 0 ∨ g_X10_isRegister x = 1 := in_b
theorem ins_eq {F k : Nat} {a b c : Int32} {u : rg_U} (hk : k < 23) : g_X9_isInstruction F (nI k) a b c u = some (if g_X9_fits (askA k) a = 0 then 0 else if g_X9_fits (askB k) b = 0 then 0 else if g_X9_fits (askC k) c = 0 then 0 else 1) := by
  unfold g_X9_isInstruction
  have h1 : ¬ nI k < 0 := nI_pos (by omega)
  have h2 : ¬ (23 : Int32) ≤ nI k := nI_ge (a := k) (b := 23) hk (by decide)
  have h3 : nI k < (23 : Int32) := nI_lt (a := k) (b := 23) hk (by decide)
  rw [if_neg h1, if_neg h2, if_neg h2, if_pos h3, ck_t (inb_nI hk (by decide)), nI_clamp (by omega)]
  by_cases q1 : g_X9_fits (askA k) a = 0
  · rw [if_pos q1, if_pos q1]
  · rw [if_neg q1, if_neg q1, ck_t (inb_nI hk (by decide))]
    by_cases q2 : g_X9_fits (askB k) b = 0
    · rw [if_pos q2, if_pos q2]
    · rw [if_neg q2, if_neg q2, ck_t (inb_nI hk (by decide))]
      by_cases q3 : g_X9_fits (askC k) c = 0
      · rw [if_pos q3, if_pos q3]
      · rw [if_neg q3, if_neg q3]
theorem z1_ne : ¬ (1 : Int32) = 0 := by decide
theorem fe_0 {a b c : Int32} : (if g_X9_fits (askA 0) a = 0 then (0 : Int32) else if g_X9_fits (askB 0) b = 0 then 0 else if g_X9_fits (askC 0) c = 0 then 0 else 1) = g_X10_isFine (nI 0) a b c := rfl
theorem fe_18 {a b c : Int32} : (if g_X9_fits (askA 18) a = 0 then (0 : Int32) else if g_X9_fits (askB 18) b = 0 then 0 else if g_X9_fits (askC 18) c = 0 then 0 else 1) = g_X10_isFine (nI 18) a b c := rfl
theorem fe_15 {a b c : Int32} : (if g_X9_fits (askA 15) a = 0 then (0 : Int32) else if g_X9_fits (askB 15) b = 0 then 0 else if g_X9_fits (askC 15) c = 0 then 0 else 1) = g_X10_isFine (nI 15) a b c := by
  show (if g_X9_fits 2 a = 0 then (0 : Int32) else if (1 : Int32) = 0 then 0 else if (1 : Int32) = 0 then 0 else 1) = g_X10_isIn a 0 63
  rw [if_neg z1_ne, if_neg z1_ne, ft2, bz in_b]
theorem fe_17 {a b c : Int32} : (if g_X9_fits (askA 17) a = 0 then (0 : Int32) else if g_X9_fits (askB 17) b = 0 then 0 else if g_X9_fits (askC 17) c = 0 then 0 else 1) = g_X10_isFine (nI 17) a b c := by
  show (if g_X9_fits 2 a = 0 then (0 : Int32) else if (1 : Int32) = 0 then 0 else if (1 : Int32) = 0 then 0 else 1) = g_X10_isIn a 0 63
  rw [if_neg z1_ne, if_neg z1_ne, ft2, bz in_b]
theorem fe_1 {a b c : Int32} : (if g_X9_fits (askA 1) a = 0 then (0 : Int32) else if g_X9_fits (askB 1) b = 0 then 0 else if g_X9_fits (askC 1) c = 0 then 0 else 1) = g_X10_isFine (nI 1) a b c := by
  show (if g_X9_fits 1 a = 0 then (0 : Int32) else if (1 : Int32) = 0 then 0 else if (1 : Int32) = 0 then 0 else 1) = (if g_X10_isRegister a = 0 then (0 : Int32) else 1)
  rw [if_neg z1_ne, if_neg z1_ne, ft1]
theorem fe_19 {a b c : Int32} : (if g_X9_fits (askA 19) a = 0 then (0 : Int32) else if g_X9_fits (askB 19) b = 0 then 0 else if g_X9_fits (askC 19) c = 0 then 0 else 1) = g_X10_isFine (nI 19) a b c := by
  show (if g_X9_fits 1 a = 0 then (0 : Int32) else if (1 : Int32) = 0 then 0 else if (1 : Int32) = 0 then 0 else 1) = (if g_X10_isRegister a = 0 then (0 : Int32) else 1)
  rw [if_neg z1_ne, if_neg z1_ne, ft1]
theorem fe_21 {a b c : Int32} : (if g_X9_fits (askA 21) a = 0 then (0 : Int32) else if g_X9_fits (askB 21) b = 0 then 0 else if g_X9_fits (askC 21) c = 0 then 0 else 1) = g_X10_isFine (nI 21) a b c := by
  show (if g_X9_fits 1 a = 0 then (0 : Int32) else if (1 : Int32) = 0 then 0 else if (1 : Int32) = 0 then 0 else 1) = (if g_X10_isRegister a = 0 then (0 : Int32) else 1)
  rw [if_neg z1_ne, if_neg z1_ne, ft1]
theorem fe_22 {a b c : Int32} : (if g_X9_fits (askA 22) a = 0 then (0 : Int32) else if g_X9_fits (askB 22) b = 0 then 0 else if g_X9_fits (askC 22) c = 0 then 0 else 1) = g_X10_isFine (nI 22) a b c := by
  show (if g_X9_fits 1 a = 0 then (0 : Int32) else if (1 : Int32) = 0 then 0 else if (1 : Int32) = 0 then 0 else 1) = (if g_X10_isRegister a = 0 then (0 : Int32) else 1)
  rw [if_neg z1_ne, if_neg z1_ne, ft1]
theorem fe_2 {a b c : Int32} : (if g_X9_fits (askA 2) a = 0 then (0 : Int32) else if g_X9_fits (askB 2) b = 0 then 0 else if g_X9_fits (askC 2) c = 0 then 0 else 1) = g_X10_isFine (nI 2) a b c := by
  show (if g_X9_fits 1 a = 0 then (0 : Int32) else if g_X9_fits 3 b = 0 then 0 else if (1 : Int32) = 0 then 0 else 1) = (if g_X10_isRegister a = 0 then (0 : Int32) else g_X10_isIn b 0 1)
  rw [if_neg z1_ne, ft1, ft3, bz in_b]
theorem fe_16 {a b c : Int32} : (if g_X9_fits (askA 16) a = 0 then (0 : Int32) else if g_X9_fits (askB 16) b = 0 then 0 else if g_X9_fits (askC 16) c = 0 then 0 else 1) = g_X10_isFine (nI 16) a b c := by
  show (if g_X9_fits 1 a = 0 then (0 : Int32) else if g_X9_fits 2 b = 0 then 0 else if (1 : Int32) = 0 then 0 else 1) = (if g_X10_isRegister a = 0 then (0 : Int32) else g_X10_isIn b 0 63)
  rw [if_neg z1_ne, ft1, ft2, bz in_b]
theorem fe_20 {a b c : Int32} : (if g_X9_fits (askA 20) a = 0 then (0 : Int32) else if g_X9_fits (askB 20) b = 0 then 0 else if g_X9_fits (askC 20) c = 0 then 0 else 1) = g_X10_isFine (nI 20) a b c := by
  show (if g_X9_fits 1 a = 0 then (0 : Int32) else if g_X9_fits 4 b = 0 then 0 else if (1 : Int32) = 0 then 0 else 1) = (if g_X10_isRegister a = 0 then (0 : Int32) else g_X10_isIn b 1 1000)
  rw [if_neg z1_ne, ft1, ft4, bz in_b]
theorem fe_3 {a b c : Int32} : (if g_X9_fits (askA 3) a = 0 then (0 : Int32) else if g_X9_fits (askB 3) b = 0 then 0 else if g_X9_fits (askC 3) c = 0 then 0 else 1) = g_X10_isFine (nI 3) a b c := by
  show (if g_X9_fits 1 a = 0 then (0 : Int32) else if g_X9_fits 1 b = 0 then 0 else if (1 : Int32) = 0 then 0 else 1) = (if g_X10_isRegister a = 0 then (0 : Int32) else g_X10_isRegister b)
  rw [if_neg z1_ne, ft1, ft1, bz rg_b]
theorem fe_11 {a b c : Int32} : (if g_X9_fits (askA 11) a = 0 then (0 : Int32) else if g_X9_fits (askB 11) b = 0 then 0 else if g_X9_fits (askC 11) c = 0 then 0 else 1) = g_X10_isFine (nI 11) a b c := by
  show (if g_X9_fits 1 a = 0 then (0 : Int32) else if g_X9_fits 1 b = 0 then 0 else if (1 : Int32) = 0 then 0 else 1) = (if g_X10_isRegister a = 0 then (0 : Int32) else g_X10_isRegister b)
  rw [if_neg z1_ne, ft1, ft1, bz rg_b]
theorem fe_13 {a b c : Int32} : (if g_X9_fits (askA 13) a = 0 then (0 : Int32) else if g_X9_fits (askB 13) b = 0 then 0 else if g_X9_fits (askC 13) c = 0 then 0 else 1) = g_X10_isFine (nI 13) a b c := by
  show (if g_X9_fits 1 a = 0 then (0 : Int32) else if g_X9_fits 1 b = 0 then 0 else if (1 : Int32) = 0 then 0 else 1) = (if g_X10_isRegister a = 0 then (0 : Int32) else g_X10_isRegister b)
  rw [if_neg z1_ne, ft1, ft1, bz rg_b]
theorem fe_14 {a b c : Int32} : (if g_X9_fits (askA 14) a = 0 then (0 : Int32) else if g_X9_fits (askB 14) b = 0 then 0 else if g_X9_fits (askC 14) c = 0 then 0 else 1) = g_X10_isFine (nI 14) a b c := by
  show (if g_X9_fits 1 a = 0 then (0 : Int32) else if g_X9_fits 1 b = 0 then 0 else if (1 : Int32) = 0 then 0 else 1) = (if g_X10_isRegister a = 0 then (0 : Int32) else g_X10_isRegister b)
  rw [if_neg z1_ne, ft1, ft1, bz rg_b]
theorem fe_4 {a b c : Int32} : (if g_X9_fits (askA 4) a = 0 then (0 : Int32) else if g_X9_fits (askB 4) b = 0 then 0 else if g_X9_fits (askC 4) c = 0 then 0 else 1) = g_X10_isFine (nI 4) a b c := by
  have r4 : g_X10_isFine (nI 4) a b c = if g_X10_isRegister a = 0 then (0 : Int32) else if g_X10_isRegister b = 0 then 0 else if g_X10_isRegister c = 0 then 0 else 1 := by
    unfold g_X10_isFine
    rw [if_neg (show ¬ nI 4 = (-1) by decide), if_neg (show ¬ nI 4 = 0 by decide), if_neg (show ¬ nI 4 = 18 by decide), if_neg (show ¬ nI 4 = 15 by decide), if_neg (show ¬ nI 4 = 17 by decide)]
    by_cases q : g_X10_isRegister a = 0
    · rw [if_pos q, if_pos q]
    · rw [if_neg q, if_neg q, if_neg (show ¬ nI 4 = 2 by decide), if_neg (show ¬ nI 4 = 16 by decide), if_neg (show ¬ nI 4 = 20 by decide), if_neg (show ¬ nI 4 = 3 by decide), if_neg (show ¬ nI 4 = 11 by decide), if_neg (show ¬ nI 4 = 13 by decide), if_neg (show ¬ nI 4 = 14 by decide), if_neg (show ¬ g_X10_isIn (nI 4) 4 10 = 0 by decide)]
      rfl
  rw [r4, show askA 4 = 1 from rfl, show askB 4 = 1 from rfl, show askC 4 = 1 from rfl, ft1, ft1, ft1]
theorem fe_5 {a b c : Int32} : (if g_X9_fits (askA 5) a = 0 then (0 : Int32) else if g_X9_fits (askB 5) b = 0 then 0 else if g_X9_fits (askC 5) c = 0 then 0 else 1) = g_X10_isFine (nI 5) a b c := by
  have r4 : g_X10_isFine (nI 5) a b c = if g_X10_isRegister a = 0 then (0 : Int32) else if g_X10_isRegister b = 0 then 0 else if g_X10_isRegister c = 0 then 0 else 1 := by
    unfold g_X10_isFine
    rw [if_neg (show ¬ nI 5 = (-1) by decide), if_neg (show ¬ nI 5 = 0 by decide), if_neg (show ¬ nI 5 = 18 by decide), if_neg (show ¬ nI 5 = 15 by decide), if_neg (show ¬ nI 5 = 17 by decide)]
    by_cases q : g_X10_isRegister a = 0
    · rw [if_pos q, if_pos q]
    · rw [if_neg q, if_neg q, if_neg (show ¬ nI 5 = 2 by decide), if_neg (show ¬ nI 5 = 16 by decide), if_neg (show ¬ nI 5 = 20 by decide), if_neg (show ¬ nI 5 = 3 by decide), if_neg (show ¬ nI 5 = 11 by decide), if_neg (show ¬ nI 5 = 13 by decide), if_neg (show ¬ nI 5 = 14 by decide), if_neg (show ¬ g_X10_isIn (nI 5) 4 10 = 0 by decide)]
      rfl
  rw [r4, show askA 5 = 1 from rfl, show askB 5 = 1 from rfl, show askC 5 = 1 from rfl, ft1, ft1, ft1]
theorem fe_6 {a b c : Int32} : (if g_X9_fits (askA 6) a = 0 then (0 : Int32) else if g_X9_fits (askB 6) b = 0 then 0 else if g_X9_fits (askC 6) c = 0 then 0 else 1) = g_X10_isFine (nI 6) a b c := by
  have r4 : g_X10_isFine (nI 6) a b c = if g_X10_isRegister a = 0 then (0 : Int32) else if g_X10_isRegister b = 0 then 0 else if g_X10_isRegister c = 0 then 0 else 1 := by
    unfold g_X10_isFine
    rw [if_neg (show ¬ nI 6 = (-1) by decide), if_neg (show ¬ nI 6 = 0 by decide), if_neg (show ¬ nI 6 = 18 by decide), if_neg (show ¬ nI 6 = 15 by decide), if_neg (show ¬ nI 6 = 17 by decide)]
    by_cases q : g_X10_isRegister a = 0
    · rw [if_pos q, if_pos q]
    · rw [if_neg q, if_neg q, if_neg (show ¬ nI 6 = 2 by decide), if_neg (show ¬ nI 6 = 16 by decide), if_neg (show ¬ nI 6 = 20 by decide), if_neg (show ¬ nI 6 = 3 by decide), if_neg (show ¬ nI 6 = 11 by decide), if_neg (show ¬ nI 6 = 13 by decide), if_neg (show ¬ nI 6 = 14 by decide), if_neg (show ¬ g_X10_isIn (nI 6) 4 10 = 0 by decide)]
      rfl
  rw [r4, show askA 6 = 1 from rfl, show askB 6 = 1 from rfl, show askC 6 = 1 from rfl, ft1, ft1, ft1]
theorem fe_7 {a b c : Int32} : (if g_X9_fits (askA 7) a = 0 then (0 : Int32) else if g_X9_fits (askB 7) b = 0 then 0 else if g_X9_fits (askC 7) c = 0 then 0 else 1) = g_X10_isFine (nI 7) a b c := by
  have r4 : g_X10_isFine (nI 7) a b c = if g_X10_isRegister a = 0 then (0 : Int32) else if g_X10_isRegister b = 0 then 0 else if g_X10_isRegister c = 0 then 0 else 1 := by
    unfold g_X10_isFine
    rw [if_neg (show ¬ nI 7 = (-1) by decide), if_neg (show ¬ nI 7 = 0 by decide), if_neg (show ¬ nI 7 = 18 by decide), if_neg (show ¬ nI 7 = 15 by decide), if_neg (show ¬ nI 7 = 17 by decide)]
    by_cases q : g_X10_isRegister a = 0
    · rw [if_pos q, if_pos q]
    · rw [if_neg q, if_neg q, if_neg (show ¬ nI 7 = 2 by decide), if_neg (show ¬ nI 7 = 16 by decide), if_neg (show ¬ nI 7 = 20 by decide), if_neg (show ¬ nI 7 = 3 by decide), if_neg (show ¬ nI 7 = 11 by decide), if_neg (show ¬ nI 7 = 13 by decide), if_neg (show ¬ nI 7 = 14 by decide), if_neg (show ¬ g_X10_isIn (nI 7) 4 10 = 0 by decide)]
      rfl
  rw [r4, show askA 7 = 1 from rfl, show askB 7 = 1 from rfl, show askC 7 = 1 from rfl, ft1, ft1, ft1]
theorem fe_8 {a b c : Int32} : (if g_X9_fits (askA 8) a = 0 then (0 : Int32) else if g_X9_fits (askB 8) b = 0 then 0 else if g_X9_fits (askC 8) c = 0 then 0 else 1) = g_X10_isFine (nI 8) a b c := by
  have r4 : g_X10_isFine (nI 8) a b c = if g_X10_isRegister a = 0 then (0 : Int32) else if g_X10_isRegister b = 0 then 0 else if g_X10_isRegister c = 0 then 0 else 1 := by
    unfold g_X10_isFine
    rw [if_neg (show ¬ nI 8 = (-1) by decide), if_neg (show ¬ nI 8 = 0 by decide), if_neg (show ¬ nI 8 = 18 by decide), if_neg (show ¬ nI 8 = 15 by decide), if_neg (show ¬ nI 8 = 17 by decide)]
    by_cases q : g_X10_isRegister a = 0
    · rw [if_pos q, if_pos q]
    · rw [if_neg q, if_neg q, if_neg (show ¬ nI 8 = 2 by decide), if_neg (show ¬ nI 8 = 16 by decide), if_neg (show ¬ nI 8 = 20 by decide), if_neg (show ¬ nI 8 = 3 by decide), if_neg (show ¬ nI 8 = 11 by decide), if_neg (show ¬ nI 8 = 13 by decide), if_neg (show ¬ nI 8 = 14 by decide), if_neg (show ¬ g_X10_isIn (nI 8) 4 10 = 0 by decide)]
      rfl
  rw [r4, show askA 8 = 1 from rfl, show askB 8 = 1 from rfl, show askC 8 = 1 from rfl, ft1, ft1, ft1]
theorem fe_9 {a b c : Int32} : (if g_X9_fits (askA 9) a = 0 then (0 : Int32) else if g_X9_fits (askB 9) b = 0 then 0 else if g_X9_fits (askC 9) c = 0 then 0 else 1) = g_X10_isFine (nI 9) a b c := by
  have r4 : g_X10_isFine (nI 9) a b c = if g_X10_isRegister a = 0 then (0 : Int32) else if g_X10_isRegister b = 0 then 0 else if g_X10_isRegister c = 0 then 0 else 1 := by
    unfold g_X10_isFine
    rw [if_neg (show ¬ nI 9 = (-1) by decide), if_neg (show ¬ nI 9 = 0 by decide), if_neg (show ¬ nI 9 = 18 by decide), if_neg (show ¬ nI 9 = 15 by decide), if_neg (show ¬ nI 9 = 17 by decide)]
    by_cases q : g_X10_isRegister a = 0
    · rw [if_pos q, if_pos q]
    · rw [if_neg q, if_neg q, if_neg (show ¬ nI 9 = 2 by decide), if_neg (show ¬ nI 9 = 16 by decide), if_neg (show ¬ nI 9 = 20 by decide), if_neg (show ¬ nI 9 = 3 by decide), if_neg (show ¬ nI 9 = 11 by decide), if_neg (show ¬ nI 9 = 13 by decide), if_neg (show ¬ nI 9 = 14 by decide), if_neg (show ¬ g_X10_isIn (nI 9) 4 10 = 0 by decide)]
      rfl
  rw [r4, show askA 9 = 1 from rfl, show askB 9 = 1 from rfl, show askC 9 = 1 from rfl, ft1, ft1, ft1]
theorem fe_10 {a b c : Int32} : (if g_X9_fits (askA 10) a = 0 then (0 : Int32) else if g_X9_fits (askB 10) b = 0 then 0 else if g_X9_fits (askC 10) c = 0 then 0 else 1) = g_X10_isFine (nI 10) a b c := by
  have r4 : g_X10_isFine (nI 10) a b c = if g_X10_isRegister a = 0 then (0 : Int32) else if g_X10_isRegister b = 0 then 0 else if g_X10_isRegister c = 0 then 0 else 1 := by
    unfold g_X10_isFine
    rw [if_neg (show ¬ nI 10 = (-1) by decide), if_neg (show ¬ nI 10 = 0 by decide), if_neg (show ¬ nI 10 = 18 by decide), if_neg (show ¬ nI 10 = 15 by decide), if_neg (show ¬ nI 10 = 17 by decide)]
    by_cases q : g_X10_isRegister a = 0
    · rw [if_pos q, if_pos q]
    · rw [if_neg q, if_neg q, if_neg (show ¬ nI 10 = 2 by decide), if_neg (show ¬ nI 10 = 16 by decide), if_neg (show ¬ nI 10 = 20 by decide), if_neg (show ¬ nI 10 = 3 by decide), if_neg (show ¬ nI 10 = 11 by decide), if_neg (show ¬ nI 10 = 13 by decide), if_neg (show ¬ nI 10 = 14 by decide), if_neg (show ¬ g_X10_isIn (nI 10) 4 10 = 0 by decide)]
      rfl
  rw [r4, show askA 10 = 1 from rfl, show askB 10 = 1 from rfl, show askC 10 = 1 from rfl, ft1, ft1, ft1]
theorem fe_12 {a b c : Int32} : (if g_X9_fits (askA 12) a = 0 then (0 : Int32) else if g_X9_fits (askB 12) b = 0 then 0 else if g_X9_fits (askC 12) c = 0 then 0 else 1) = g_X10_isFine (nI 12) a b c := by
  have r4 : g_X10_isFine (nI 12) a b c = if g_X10_isRegister a = 0 then (0 : Int32) else if g_X10_isRegister b = 0 then 0 else if g_X10_isRegister c = 0 then 0 else 1 := by
    unfold g_X10_isFine
    rw [if_neg (show ¬ nI 12 = (-1) by decide), if_neg (show ¬ nI 12 = 0 by decide), if_neg (show ¬ nI 12 = 18 by decide), if_neg (show ¬ nI 12 = 15 by decide), if_neg (show ¬ nI 12 = 17 by decide)]
    by_cases q : g_X10_isRegister a = 0
    · rw [if_pos q, if_pos q]
    · rw [if_neg q, if_neg q, if_neg (show ¬ nI 12 = 2 by decide), if_neg (show ¬ nI 12 = 16 by decide), if_neg (show ¬ nI 12 = 20 by decide), if_neg (show ¬ nI 12 = 3 by decide), if_neg (show ¬ nI 12 = 11 by decide), if_neg (show ¬ nI 12 = 13 by decide), if_neg (show ¬ nI 12 = 14 by decide), if_pos (show g_X10_isIn (nI 12) 4 10 = 0 by decide), if_pos (show nI 12 = 12 by decide)]
      rfl
  rw [r4, show askA 12 = 1 from rfl, show askB 12 = 1 from rfl, show askC 12 = 1 from rfl, ft1, ft1, ft1]
theorem fine_eq {k : Nat} {a b c : Int32} (hk : k < 23) : (if g_X9_fits (askA k) a = 0 then (0 : Int32) else if g_X9_fits (askB k) b = 0 then 0 else if g_X9_fits (askC k) c = 0 then 0 else 1) = g_X10_isFine (nI k) a b c := by
  match k, hk with
  | 0, _ => exact fe_0
  | 1, _ => exact fe_1
  | 2, _ => exact fe_2
  | 3, _ => exact fe_3
  | 4, _ => exact fe_4
  | 5, _ => exact fe_5
  | 6, _ => exact fe_6
  | 7, _ => exact fe_7
  | 8, _ => exact fe_8
  | 9, _ => exact fe_9
  | 10, _ => exact fe_10
  | 11, _ => exact fe_11
  | 12, _ => exact fe_12
  | 13, _ => exact fe_13
  | 14, _ => exact fe_14
  | 15, _ => exact fe_15
  | 16, _ => exact fe_16
  | 17, _ => exact fe_17
  | 18, _ => exact fe_18
  | 19, _ => exact fe_19
  | 20, _ => exact fe_20
  | 21, _ => exact fe_21
  | 22, _ => exact fe_22
  | k + 23, hk => omega
/-- a kind that isn't one -/
theorem fine_out {x a b c : Int32} (h1 : ¬ x = -1) (h : x < 0 ∨ 23 ≤ x) : g_X10_isFine x a b c = 0 := by
  have ne : ∀ n : Nat, n < 23 → ¬ x = nI n := fun n hn q => by
    subst q
    rcases h with z | z
    · exact nI_pos (by omega) z
    · exact nI_ge (a := n) (b := 23) hn (by decide) z
  have hin : g_X10_isIn x 4 10 = 0 := by
    rw [in_0]
    rintro ⟨q1, q2⟩
    rw [Int32.le_iff_toInt_le] at q1 q2
    have e1 : (4 : Int32).toInt = 4 := rfl
    have e2 : (10 : Int32).toInt = 10 := rfl
    rcases h with z | z
    · rw [Int32.lt_iff_toInt_lt] at z
      have e0 : (0 : Int32).toInt = 0 := rfl
      omega
    · rw [Int32.le_iff_toInt_le] at z
      have e0 : (23 : Int32).toInt = 23 := rfl
      omega
  unfold g_X10_isFine
  rw [if_neg h1, if_neg (show ¬ x = 0 from ne 0 (by decide)), if_neg (show ¬ x = 18 from ne 18 (by decide)), if_neg (show ¬ x = 15 from ne 15 (by decide)), if_neg (show ¬ x = 17 from ne 17 (by decide))]
  by_cases q : g_X10_isRegister a = 0
  · rw [if_pos q]
  · rw [if_neg q, if_neg (show ¬ x = 2 from ne 2 (by decide)), if_neg (show ¬ x = 16 from ne 16 (by decide)), if_neg (show ¬ x = 20 from ne 20 (by decide)), if_neg (show ¬ x = 3 from ne 3 (by decide)), if_neg (show ¬ x = 11 from ne 11 (by decide)), if_neg (show ¬ x = 13 from ne 13 (by decide)), if_neg (show ¬ x = 14 from ne 14 (by decide)), if_pos hin, if_neg (show ¬ x = 12 from ne 12 (by decide)), if_neg (show ¬ x = 1 from ne 1 (by decide)), if_neg (show ¬ x = 19 from ne 19 (by decide)), if_neg (show ¬ x = 21 from ne 21 (by decide)), if_neg (show ¬ x = 22 from ne 22 (by decide))]
theorem instr_fine {F : Nat} {x a b c : Int32} {u : rg_U} (h : ¬ x = -1) : g_X9_isInstruction F x a b c u = some (g_X10_isFine x a b c) := by
  by_cases h0 : x < 0
  · unfold g_X9_isInstruction
    rw [if_pos h0, fine_out h (Or.inl h0)]
  · by_cases h23 : (23 : Int32) ≤ x
    · unfold g_X9_isInstruction
      rw [if_neg h0, if_pos h23, fine_out h (Or.inr h23)]
    · obtain ⟨k, hk, rfl⟩ := nI_of h0
      have hk : k < 23 := Nat.not_le.mp fun q => h23 (nI_le (a := 23) (b := k) q hk)
      rw [ins_eq hk, fine_eq hk]
/-! would, gap, sparing -/
theorem m_halvings {F k : Nat} {u : rg_U} (h0 : 0 < k) (hk : k < 2 ^ 31) (hF : 31 < F) : g_X10_halvings F (nI k) u = some (nI (tz k)) := by
  obtain ⟨s1, s2, s3⟩ := tz_spec h0 hk
  unfold g_X10_halvings
  have h := lp_up (body := fun (s : Int32) => g_X10_halvings_l2 F (nI k) u s) (fun z => nI z) (tz k) (nI (tz k)) (fun z hz => by
    show g_X10_halvings_l2 F (nI k) u (nI z) = _
    unfold g_X10_halvings_l2
    rw [show (dx_shr (nI k) (nI z) &&& 1) = nI (k / 2 ^ z % 2) from bit_at hk (by omega), s1 z hz, if_pos nI_0, nI_1]) (by
    show g_X10_halvings_l2 F (nI k) u (nI (tz k)) = _
    unfold g_X10_halvings_l2
    rw [show (dx_shr (nI k) (nI (tz k)) &&& 1) = nI (k / 2 ^ (tz k) % 2) from bit_at hk (by omega), s2, if_neg (by decide)]) F 0 (Nat.zero_le _) (by omega)
  rw [nI_0] at h
  rw [h]
  rfl
theorem m_goesWith {F k d : Nat} {u : rg_U} (h0 : 0 < k) (hk : k ≤ 3000) (hd : d ≤ 8) (hF : 31 < F) : g_X10_goesWith F (nI k) (nI d) u = some (nI (gw k d)) := by
  unfold g_X10_goesWith
  rw [m_halvings h0 (by omega) hF, ob_i, show dx_shl (nI d) (nI (tz k)) = nI (d * 2 ^ tz k) from shl_tz h0 hk hd, nI_add]
  rfl
theorem m_wouldBe {F k now d : Nat} {u : rg_U} (hk : k ≤ 3000) (hn : now ≤ 3000) (hd : d ≤ 8) (hF : 31 < F) : g_X10_wouldBe F (nI k) (nI now) (nI d) u = some (if wb k now d then 1 else 0) := by
  unfold g_X10_wouldBe
  by_cases h0 : k = 0
  · subst h0; rfl
  · rw [if_neg (nI_ne0 (by omega) (by omega)), m_goesWith (by omega) hk hd hF, ob_i]
    have hg := gw_le (by omega : 0 < k) hk hd
    rw [wb_pos (by omega)]
    by_cases q : now < gw k d
    · rw [if_neg (nI_ge q (by omega)), if_pos (decide_eq_true q)]
    · rw [if_pos (nI_le (by omega) (by omega)), if_neg (by simpa using q)]
theorem m_one {p : Bool} : g_X10_one (if p then 1 else 0) = if p then 1 else 0 := by cases p <;> rfl
theorem m_wouldOf {F U E T : Nat} {u : rg_U} (hU : 0 < U) (hU2 : U ≤ 64) (hE : E ≤ 8) (hT : T ≤ 3000) (hF : 10000 < F) : g_X10_wouldOf F (nI U) (nI E) (nI T) u = some (nI (wc (T / U) E (T / U + 1))) := by
  have hd : T / U ≤ 3000 := Nat.le_trans (Nat.div_le_self T U) hT
  have hdiv : nI T / nI U = nI (T / U) := pk_div (by omega) hU (by omega)
  have hn0 : ¬ nI U = 0 := nI_ne0 hU (by omega)
  unfold g_X10_wouldOf
  have h := lp_up (body := fun (s : Int32 × Int32) => g_X10_wouldOf_l6 F (nI U) (nI E) (nI T) u s.1 s.2) (fun k => (nI (wc (T / U) E k), nI k)) (T / U + 1) (nI (wc (T / U) E (T / U + 1))) (fun k hk => by
    show g_X10_wouldOf_l6 F (nI U) (nI E) (nI T) u (nI (wc (T / U) E k)) (nI k) = _
    unfold g_X10_wouldOf_l6
    rw [ck_t hn0, hdiv, if_neg (nI_nlt (by omega) (by omega)), ck_t hn0, m_wouldBe (by omega) hd hE (by omega), ob_i, m_one, nI_1]
    congr 3
    by_cases q : wb k (T / U) E = true
    · rw [if_pos q, wc_yes q, nI_1]
    · rw [if_neg q, wc_no (by simpa using q)]
      show nI _ + nI 0 = _
      rw [nI_add]; rfl) (by
    show g_X10_wouldOf_l6 F (nI U) (nI E) (nI T) u (nI (wc (T / U) E (T / U + 1))) (nI (T / U + 1)) = _
    unfold g_X10_wouldOf_l6
    rw [ck_t hn0, hdiv, if_pos (nI_lt (by omega) (by omega))]) F 0 (Nat.zero_le _) (by omega)
  rw [show (nI (wc (T / U) E 0), nI 0) = ((0 : Int32), (0 : Int32)) from rfl] at h
  rw [h]
  rfl
theorem c_goesWith {k d : Nat} (h0 : 0 < k) (hk : k ≤ 3000) (hd : d ≤ 8) : g_X2_goesWith (nI k) (nI d) = nI (gw k d) := by
  unfold g_X2_goesWith
  rw [lowbit k (by omega) h0, pk_mul, nI_add]
  rfl
theorem c_still {k d n : Nat} (h0 : 0 < k) (hk : k ≤ 3000) (hd : d ≤ 8) (hn : n ≤ 3000) : g_X2_isHeldStill (nI k) (nI d) (nI n) = if wb k n d then 1 else 0 := by
  unfold g_X2_isHeldStill
  rw [c_goesWith h0 hk hd]
  have hg := gw_le h0 hk hd
  rw [wb_pos h0]
  by_cases q : n < gw k d
  · rw [if_neg (nI_ge q (by omega)), if_pos (decide_eq_true q)]
  · rw [if_pos (nI_le (by omega) (by omega)), if_neg (by simpa using q)]
theorem wc_1 (now d : Nat) : wc now d 1 = 1 := rfl
theorem c_wouldBeHeld {F U E T : Nat} {u : rg_U} (hU : 0 < U) (hU2 : U ≤ 64) (hE : E ≤ 8) (hT : T ≤ 3000) (hF : 10000 < F) : g_X9_wouldBeHeld F (nI U) (nI E) (nI T) u = some (nI (wc (T / U) E (T / U + 1))) := by
  have hd : T / U ≤ 3000 := Nat.le_trans (Nat.div_le_self T U) hT
  have hdiv : nI T / nI U = nI (T / U) := pk_div (by omega) hU (by omega)
  have hn0 : ¬ nI U = 0 := nI_ne0 hU (by omega)
  unfold g_X9_wouldBeHeld
  rw [if_pos (show (1 : Int32) ≤ nI U from nI_le (a := 1) hU (by omega)), ck_t hn0, hdiv]
  generalize T / U = n at *
  have h := lp_up (body := fun (s : Int32 × Int32) => g_X9_wouldBeHeld_l17 F (nI E) (nI n) u s.1 s.2) (fun k => (nI (wc n E (k + 1)), nI (k + 1))) n (nI (wc n E (n + 1))) (fun k hk => by
    show g_X9_wouldBeHeld_l17 F (nI E) (nI n) u (nI (wc n E (k + 1))) (nI (k + 1)) = _
    unfold g_X9_wouldBeHeld_l17
    rw [if_neg (nI_nlt (by omega) (by omega)), c_still (by omega) (by omega) hE hd]
    by_cases q : wb (k + 1) n E = true
    · rw [if_pos q, if_neg (by decide), wc_yes q]
      unfold g_X9_wouldBeHeld_j36
      rw [nI_1, nI_1]
    · rw [if_neg q, if_pos rfl, wc_no (k := k + 1) (by simpa using q)]
      unfold g_X9_wouldBeHeld_j36
      rw [nI_1]) (by
    show g_X9_wouldBeHeld_l17 F (nI E) (nI n) u (nI (wc n E (n + 1))) (nI (n + 1)) = _
    unfold g_X9_wouldBeHeld_l17
    rw [if_pos (nI_lt (by omega) (by omega))]) F 0 (Nat.zero_le _) (by omega)
  rw [show (nI (wc n E (0 + 1)), nI (0 + 1)) = ((1 : Int32), (1 : Int32)) from rfl] at h
  rw [h]
  rfl
theorem in_s {x y : Int32} (h : ¬ g_X10_isSpacing x y = 0) : ∃ U E : Nat, x = nI U ∧ y = nI E ∧ 0 < U ∧ U ≤ 64 ∧ 0 < E ∧ E ≤ 8 := by
  rw [sp_iff] at h
  by_cases q : g_X10_isIn x 1 64 = 0
  · rw [if_pos q] at h; exact absurd rfl h
  · rw [if_neg q] at h
    obtain ⟨U, e1, h1, h2⟩ := in_nat q (by decide)
    obtain ⟨E, e2, h3, h4⟩ := in_nat h (by decide)
    have z1 : (1 : Int32).toInt = 1 := rfl
    have z2 : (64 : Int32).toInt = 64 := rfl
    have z3 : (8 : Int32).toInt = 8 := rfl
    exact ⟨U, E, e1, e2, by omega, by omega, by omega, by omega⟩
theorem in_t {x : Int32} (h : ¬ g_X10_isIn x 0 3000 = 0) : ∃ T : Nat, x = nI T ∧ T ≤ 3000 := by
  obtain ⟨T, e1, h1, h2⟩ := in_nat h (by decide)
  have z2 : (3000 : Int32).toInt = 3000 := rfl
  exact ⟨T, e1, by omega⟩
theorem in_d {x : Int32} (h : ¬ g_X10_isIn x 1 8 = 0) : ∃ E : Nat, x = nI E ∧ 0 < E ∧ E ≤ 8 := by
  obtain ⟨E, e1, h1, h2⟩ := in_nat h (by decide)
  have z1 : (1 : Int32).toInt = 1 := rfl
  have z2 : (8 : Int32).toInt = 8 := rfl
  exact ⟨E, e1, by omega, by omega⟩
/-- the class asks the same of a unit, a depth and a time -/
theorem cl_spt {x y z : Int32} {α : Type} {a b : α} : (if g_X9_isUnit x = 0 then a else if g_X9_isDepth y = 0 then a else if g_X9_isAnyTime z = 0 then a else b) = (if g_X10_isSpacing x y = 0 then a else if g_X10_isIn z 0 3000 = 0 then a else b) := by
  rw [cl_unit, cl_depth, cl_time, sp_iff]
  by_cases q : g_X10_isIn x 1 64 = 0
  · rw [if_pos q, if_pos q, if_pos rfl]
  · rw [if_neg q, if_neg q]
theorem would_all {F : Nat} (hF : 10000 < F) (x y z : Int32) (u v : rg_U) : ∃ r, g_X9_would F x y z u = some r ∧ g_X10_would F x y z v = some r := by
  unfold g_X9_would g_X10_would
  rw [cl_spt]
  by_cases h1 : g_X10_isSpacing x y = 0
  · exact ⟨-1, by rw [if_pos h1], by rw [if_pos h1]⟩
  rw [if_neg h1, if_neg h1]
  by_cases h2 : g_X10_isIn z 0 3000 = 0
  · exact ⟨-1, by rw [if_pos h2], by rw [if_pos h2]⟩
  rw [if_neg h2, if_neg h2]
  obtain ⟨U, E, rfl, rfl, a1, a2, a3, a4⟩ := in_s h1
  obtain ⟨T, rfl, b1⟩ := in_t h2
  exact ⟨_, by rw [c_wouldBeHeld a1 a2 a4 b1 hF]; rfl, by rw [m_wouldOf a1 a2 a4 b1 hF]; rfl⟩
end W_2
section W_3
-- 86.gap
theorem nI_sub {a b : Nat} (h : b ≤ a) : nI a - nI b = nI (a - b) := by
  have e : nI a = nI (a - b) + nI b := by rw [nI_add, Nat.sub_add_cancel h]
  rw [e, Int32.add_sub_cancel]
theorem imax_nI {a b : Nat} (ha : a < 2 ^ 31) (hb : b < 2 ^ 31) : imax (nI a) (nI b) = nI (max a b) := nI_max ha hb
theorem m_gap {F U E T : Nat} {u : rg_U} (hU : 0 < U) (hU2 : U ≤ 64) (hE : E ≤ 8) (hT : T ≤ 3000) (hF : 10000 < F) : lp (fun (s : Int32 × Int32 × Int32) => g_X10_gap_l30 F (nI U) (nI E) (nI T) u s.1 s.2.1 s.2.2) F ((0 : Int32), (0 : Int32), (0 : Int32)) = some (nI (gp U E T (T + 1)).1) := by
  have hn0 : ¬ nI U = 0 := nI_ne0 hU (by omega)
  have hTU : T / U ≤ 3000 := Nat.le_trans (Nat.div_le_self T U) hT
  have h := lp_up (body := fun (s : Int32 × Int32 × Int32) => g_X10_gap_l30 F (nI U) (nI E) (nI T) u s.1 s.2.1 s.2.2) (fun k => (nI (gp U E T k).1, nI (gp U E T k).2, nI k)) (T + 1) (nI (gp U E T (T + 1)).1) (fun k hk => by
    show g_X10_gap_l30 F (nI U) (nI E) (nI T) u (nI (gp U E T k).1) (nI (gp U E T k).2) (nI k) = _
    obtain ⟨g1, g2⟩ := gp_le U E T k
    have hkU : k / U ≤ 3000 := Nat.le_trans (Nat.div_le_self k U) (by omega)
    unfold g_X10_gap_l30
    rw [if_neg (nI_nlt (by omega) (by omega)), ck_t hn0, show dx_rem (nI k) (nI U) = nI (k % U) from pk_rem (by omega) hU (by omega)]
    by_cases q : k % U = 0
    · rw [q, if_pos nI_0, ck_t hn0, ck_t hn0, pk_div (by omega) hU (by omega), pk_div (by omega) hU (by omega), m_wouldBe hkU hTU hE (by omega), ob_i]
      by_cases q2 : wb (k / U) (T / U) E = true
      · rw [if_pos q2, if_neg (by decide), gp_yes q q2]
        unfold g_X10_gap_j62
        rw [nI_sub (Nat.le_refl k), imax_nI (by omega) (by omega), nI_1]
      · rw [if_neg q2, if_pos rfl, gp_no (fun z => q2 z.2)]
        unfold g_X10_gap_j62
        rw [nI_sub g2, imax_nI (by omega) (by omega), nI_1]
    · rw [if_neg (nI_ne0 (by omega) (by have := Nat.mod_lt k hU; omega)), gp_no (fun z => q z.1)]
      unfold g_X10_gap_j62
      rw [nI_sub g2, imax_nI (by omega) (by omega), nI_1]) (by
    show g_X10_gap_l30 F (nI U) (nI E) (nI T) u (nI (gp U E T (T + 1)).1) (nI (gp U E T (T + 1)).2) (nI (T + 1)) = _
    unfold g_X10_gap_l30
    rw [if_pos (nI_lt (by omega) (by omega))]) F 0 (Nat.zero_le _) (by omega)
  exact h
theorem c_gap {F U E T : Nat} {u : rg_U} (hU : 0 < U) (hU2 : U ≤ 64) (hE : E ≤ 8) (hT : T ≤ 3000) (hF : 10000 < F) : lp (fun (s : Int32 × Int32 × Int32) => g_X9_gap_l37 F (nI U) (nI E) (nI T) (nI (T / U)) u s.1 s.2.1 s.2.2) F ((0 : Int32), (0 : Int32), (1 : Int32)) = some (nI (cg U E (T / U) (T / U)).1, nI (cg U E (T / U) (T / U)).2) := by
  have hTU : T / U ≤ 3000 := Nat.le_trans (Nat.div_le_self T U) hT
  have hm : T / U * U ≤ T := Nat.div_mul_le_self T U
  generalize T / U = n at *
  have h := lp_up (body := fun (s : Int32 × Int32 × Int32) => g_X9_gap_l37 F (nI U) (nI E) (nI T) (nI n) u s.1 s.2.1 s.2.2) (fun k => (nI (cg U E n k).1, nI (cg U E n k).2, nI (k + 1))) n (nI (cg U E n n).1, nI (cg U E n n).2) (fun k hk => by
    show g_X9_gap_l37 F (nI U) (nI E) (nI T) (nI n) u (nI (cg U E n k).1) (nI (cg U E n k).2) (nI (k + 1)) = _
    obtain ⟨g1, g2⟩ := cg_le U E n k
    have hkn : (k + 1) * U ≤ n * U := Nat.mul_le_mul_right U hk
    have hk1 : (k + 1) * U = k * U + U := Nat.succ_mul k U
    unfold g_X9_gap_l37
    rw [if_neg (nI_nlt (by omega) (by omega)), c_still (by omega) (by omega) hE hTU]
    by_cases q : wb (k + 1) n E = true
    · rw [if_pos q, if_neg (by decide), cg_yes q]
      unfold g_X9_gap_j77
      rw [pk_mul, show nI ((k + 1) * U) - 1 = nI ((k + 1) * U - 1) from nI_sub (a := (k + 1) * U) (b := 1) (by omega), nI_sub (by omega), imax_nI (by omega) (by omega), nI_1]
    · rw [if_neg q, if_pos rfl, cg_no (by simpa using q)]
      unfold g_X9_gap_j77
      rw [nI_1]) (by
    show g_X9_gap_l37 F (nI U) (nI E) (nI T) (nI n) u (nI (cg U E n n).1) (nI (cg U E n n).2) (nI (n + 1)) = _
    unfold g_X9_gap_l37
    rw [if_pos (nI_lt (by omega) (by omega))]) F 0 (Nat.zero_le _) (by omega)
  exact h
theorem gap_all {F : Nat} (hF : 10000 < F) (x y z : Int32) (u v : rg_U) : ∃ r, g_X9_gap F x y z u = some r ∧ g_X10_gap F x y z v = some r := by
  unfold g_X9_gap g_X10_gap
  rw [cl_spt]
  by_cases h1 : g_X10_isSpacing x y = 0
  · exact ⟨-1, by rw [if_pos h1], by rw [if_pos h1]⟩
  rw [if_neg h1, if_neg h1]
  by_cases h2 : g_X10_isIn z 0 3000 = 0
  · exact ⟨-1, by rw [if_pos h2], by rw [if_pos h2]⟩
  rw [if_neg h2, if_neg h2]
  obtain ⟨U, E, rfl, rfl, a1, a2, a3, a4⟩ := in_s h1
  obtain ⟨T, rfl, b1⟩ := in_t h2
  have hTU : T / U ≤ 3000 := Nat.le_trans (Nat.div_le_self T U) b1
  have hm : T / U * U ≤ T := Nat.div_mul_le_self T U
  obtain ⟨g1, g2⟩ := cg_le U E (T / U) (T / U)
  refine ⟨_, ?_, by rw [m_gap a1 a2 a4 b1 hF]; rfl⟩
  rw [ck_t (nI_ne0 a1 (by omega)), pk_div (by omega) a1 (by omega), c_gap a1 a2 a4 b1 hF, ob_i]
  show some (imax (nI _) (nI T - nI _)) = _
  rw [nI_sub (by omega), imax_nI (by omega) (by omega), gap_n a1]
theorem spar_loop {F E T : Nat} {y : Int32} {Wf : Int32 → Option Int32} (hF : 10000 < F) (hW : ∀ U : Nat, 0 < U → U ≤ 64 → Wf (nI U) = some (nI (wc (T / U) E (T / U + 1)))) : ∃ r, lp (fun (s : Int32) => if (64 : Int32) < s then (some (.inr (Sum.inr ())) : Option (Int32 ⊕ (Int32 ⊕ Unit))) else (ob (Wf s) (fun r4 => if y < r4 then (some (.inl (s + 1))) else (some (.inr (Sum.inl s)))))) F (1 : Int32) = some r ∧ os r (fun r9 => some r9) (fun _ => some (-1)) = some (spf E T y 64 1) := by
  generalize hX : spf E T y 64 1 = X
  refine lp_ex (P := fun k s => ∃ U : Nat, s = nI U ∧ 0 < U ∧ U + k = 65 ∧ spf E T y k U = X) ?_ F 64 1 (by omega) ⟨1, rfl, by omega, by omega, hX⟩
  rintro k s ⟨U, rfl, hU, hk, hs⟩
  match k, hk, hs with
  | 0, hk, hs =>
    right
    have : U = 65 := by omega
    subst this
    exact ⟨_, if_pos (by decide), by rw [← hs]; rfl⟩
  | k + 1, hk, hs =>
    have h64 : ¬ (64 : Int32) < nI U := nI_nlt (a := 64) (by omega) (by decide)
    simp only [if_neg h64, hW U hU (by omega), ob_i]
    unfold spf at hs
    by_cases q : nI (wc (T / U) E (T / U + 1)) ≤ y
    · right
      have q2 : ¬ y < nI (wc (T / U) E (T / U + 1)) := by
        rw [Int32.le_iff_toInt_le] at q
        rw [Int32.lt_iff_toInt_lt]
        omega
      rw [if_pos q] at hs
      exact ⟨_, if_neg q2, by rw [← hs]; rfl⟩
    · left
      have q2 : y < nI (wc (T / U) E (T / U + 1)) := by
        rw [Int32.le_iff_toInt_le] at q
        rw [Int32.lt_iff_toInt_lt]
        omega
      rw [if_neg q] at hs
      exact ⟨_, k, if_pos q2, by omega, U + 1, nI_1 U, by omega, by omega, hs⟩
theorem sparing_all {F : Nat} (hF : 10000 < F) (x y z : Int32) (u v : rg_U) : ∃ r, g_X9_sparing F x y z u = some r ∧ g_X10_sparing F x y z v = some r := by
  unfold g_X9_sparing g_X10_sparing
  rw [cl_depth, cl_time]
  by_cases h1 : g_X10_isIn x 1 8 = 0
  · exact ⟨-1, by rw [if_pos h1], by rw [if_pos h1]⟩
  rw [if_neg h1, if_neg h1]
  by_cases h2 : g_X10_isIn y 0 3000 = 0
  · exact ⟨-1, by rw [if_pos h2], by rw [if_pos h2]⟩
  rw [if_neg h2, if_neg h2]
  obtain ⟨E, rfl, a3, a4⟩ := in_d h1
  obtain ⟨T, rfl, b1⟩ := in_t h2
  obtain ⟨r1, e1, f1⟩ := spar_loop (y := z) (E := E) (T := T) (Wf := fun s => g_X9_wouldBeHeld F s (nI E) (nI T) u) hF (fun U h0 h6 => c_wouldBeHeld (u := u) (E := E) (T := T) h0 h6 a4 b1 hF)
  obtain ⟨r2, e2, f2⟩ := spar_loop (y := z) (E := E) (T := T) (Wf := fun s => g_X10_wouldOf F s (nI E) (nI T) v) hF (fun U h0 h6 => m_wouldOf (u := v) (E := E) (T := T) h0 h6 a4 b1 hF)
  exact ⟨spf E T z 64 1, by rw [← f1]; exact ob_e e1, by rw [← f2]; exact ob_e e2⟩
end W_3
section W_4
-- 87.begin
/-! begin, on both sides: what it answers, and what lies there then -/
theorem R_at {u : rg_U} {j i j' i' : Nat} {v : Int32} : (rg_R u j i v).2.1 j' i' = if j' = j ∧ i' = i then v else u.2.1 j' i' := by
  unfold rg_R va_up upd
  dsimp only
  by_cases h : j' = j
  · subst h
    rw [if_pos rfl]
    by_cases h2 : i' = i
    · rw [if_pos h2, if_pos ⟨rfl, h2⟩]
    · rw [if_neg h2, if_neg (fun q => h2 q.2)]
  · rw [if_neg h, if_neg (fun q => h q.1)]
theorem sA_nI {u : rg_U} {j k : Nat} {v : Int32} (h : k < 2 ^ 31) : sA u j (nI k) v = rg_R u j k v := by
  unfold sA
  rw [nI_clamp h]
theorem sZ_nI {u : rg_U} {j k : Nat} {v : Int32} (h : k < 2 ^ 31) : sZ u j (nI k) v = rg_R u j k (vp_nar .boolean v) := by
  unfold sZ
  rw [nI_clamp h]
theorem rA_nI {u : rg_U} {j k : Nat} (h : k < 2 ^ 31) : rA u j (nI k) = u.2.1 j k := by
  unfold rA
  rw [nI_clamp h]
theorem R_1 {u : rg_U} {j i : Nat} {v : Int32} : (rg_R u j i v).1 = u.1 := rfl
theorem R_2 {u : rg_U} {j i : Nat} {v : Int32} : (rg_R u j i v).2.2 = u.2.2 := rfl
def cntK (f : Nat → Int32) : Nat → Nat
  | 0 => 0
  | k + 1 => cntK f k + (if f k = -1 then 0 else 1)
theorem cntK_le (f : Nat → Int32) : ∀ k, cntK f k ≤ k
  | 0 => Nat.le_refl _
  | k + 1 => by
    unfold cntK
    have := cntK_le f k
    by_cases h : f k = -1
    · rw [if_pos h]; omega
    · rw [if_neg h]; omega
theorem cntK_c {f g : Nat → Int32} : ∀ k, (∀ i, i < k → f i = g i) → cntK f k = cntK g k
  | 0, _ => rfl
  | k + 1, h => by
    unfold cntK
    rw [cntK_c k (fun i hi => h i (by omega)), h k (by omega)]
theorem cntK_0 {f : Nat → Int32} : ∀ k, (∀ i, i < k → f i = -1) → cntK f k = 0
  | 0, _ => rfl
  | k + 1, h => by
    unfold cntK
    rw [cntK_0 k (fun i hi => h i (by omega)), if_pos (h k (by omega))]
/-- nothing but ints of arrays is other -/
def same0 (u u' : rg_U) : Prop := u'.1 = u.1 ∧ u'.2.2 = u.2.2
theorem same0_r {u : rg_U} : same0 u u := ⟨rfl, rfl⟩
theorem same0_R {u u' : rg_U} {j i : Nat} {v : Int32} (h : same0 u u') : same0 u (rg_R u' j i v) := h
/-! the class -/
theorem ipl_nI {k : Nat} (h : k < 64) : ¬ g_X9_isInstructionPlace (nI k) = 0 := by
  rw [cl_ipl]
  exact in_nI (a := 0) (b := 63) (by omega) (by omega) (by decide)
theorem c_write {F o k : Nat} {x a b c : Int32} {u : rg_U} (hk : k < 64) : g_X5_write F o (nI k) x a b c u = some (rg_R (rg_R (rg_R (rg_R u (o + 1) k x) (o + 2) k a) (o + 3) k b) (o + 4) k c) := by
  unfold g_X5_write
  rw [if_neg (ipl_nI hk), ck_t (inb_nI hk (by decide))]
  simp only [lt1_i]
  rw [ck_t (inb_nI hk (by decide)), ck_t (inb_nI hk (by decide)), ck_t (inb_nI hk (by decide)), sA_nI (by omega), sA_nI (by omega), sA_nI (by omega), sA_nI (by omega)]
theorem c_takeFromP {F o p : Nat} {u : rg_U} (hop : o + 4 < p + 1 ∨ p + 4 < o + 1) (hF : 64 < F) : ∃ u', g_X5_takeFrom F o p u = some u' ∧ same0 u u' ∧ ∀ j i, u'.2.1 j i = if (o + 1 ≤ j ∧ j ≤ o + 4) ∧ i < 64 then u.2.1 (j - o + p) i else u.2.1 j i := by
  unfold g_X5_takeFrom
  obtain ⟨r, e, h⟩ := lp_ex (body := fun (s : Int32 × rg_U) => g_X5_takeFrom_l2 F o p s.1 s.2) (P := fun k s => ∃ m, k + m = 64 ∧ s.1 = nI m ∧ same0 u s.2 ∧ ∀ j i, s.2.2.1 j i = if (o + 1 ≤ j ∧ j ≤ o + 4) ∧ i < m then u.2.1 (j - o + p) i else u.2.1 j i) (R := fun u' => same0 u u' ∧ ∀ j i, u'.2.1 j i = if (o + 1 ≤ j ∧ j ≤ o + 4) ∧ i < 64 then u.2.1 (j - o + p) i else u.2.1 j i) (by
    rintro k ⟨s1, s2⟩ ⟨m, hm, e1, h0, hv⟩
    dsimp only at e1 h0 hv
    subst e1
    unfold g_X5_takeFrom_l2
    dsimp only
    by_cases q : m = 64
    · right
      subst q
      exact ⟨s2, if_pos (by decide), h0, hv⟩
    · left
      have hm64 : m < 64 := by omega
      rw [if_neg (show ¬ (64 : Int32) ≤ nI m from nI_ge (a := m) (b := 64) hm64 (by decide)), ck_t (inb_nI hm64 (by decide)), ck_t (inb_nI hm64 (by decide)), ck_t (inb_nI hm64 (by decide)), ck_t (inb_nI hm64 (by decide)), c_write hm64, ob_i, nI_1]
      refine ⟨_, k - 1, rfl, by omega, m + 1, by omega, rfl, h0, fun j i => ?_⟩
      have r1 : ∀ z, z = 1 ∨ z = 2 ∨ z = 3 ∨ z = 4 → rA s2 (p + z) (nI m) = u.2.1 (p + z) m := fun z hz => by
        rw [rA_nI (by omega), hv (p + z) m, if_neg (by omega)]
      rw [r1 1 (by omega), r1 2 (by omega), r1 3 (by omega), r1 4 (by omega)]
      rw [R_at, R_at, R_at, R_at, hv j i]
      by_cases hi : i = m
      · subst hi
        by_cases j4 : j = o + 4
        · subst j4; rw [if_pos ⟨rfl, rfl⟩, if_pos ⟨by omega, by omega⟩, show o + 4 - o + p = p + 4 by omega]
        rw [if_neg (fun q => j4 q.1)]
        by_cases j3 : j = o + 3
        · subst j3; rw [if_pos ⟨rfl, rfl⟩, if_pos ⟨by omega, by omega⟩, show o + 3 - o + p = p + 3 by omega]
        rw [if_neg (fun q => j3 q.1)]
        by_cases j2 : j = o + 2
        · subst j2; rw [if_pos ⟨rfl, rfl⟩, if_pos ⟨by omega, by omega⟩, show o + 2 - o + p = p + 2 by omega]
        rw [if_neg (fun q => j2 q.1)]
        by_cases j1 : j = o + 1
        · subst j1; rw [if_pos ⟨rfl, rfl⟩, if_pos ⟨by omega, by omega⟩, show o + 1 - o + p = p + 1 by omega]
        rw [if_neg (fun q => j1 q.1), if_neg (by omega), if_neg (by omega)]
      · rw [if_neg (fun q => hi q.2), if_neg (fun q => hi q.2), if_neg (fun q => hi q.2), if_neg (fun q => hi q.2)]
        by_cases hj : (o + 1 ≤ j ∧ j ≤ o + 4) ∧ i < m
        · rw [if_pos hj, if_pos ⟨hj.1, by omega⟩]
        · rw [if_neg hj, if_neg (by omega)]) F 64 ((0 : Int32), u) (by omega) ⟨0, rfl, rfl, same0_r, fun j i => by rw [if_neg (by omega)]⟩
  exact ⟨r, by rw [ob_e e], h⟩
theorem c_size {F o : Nat} {u : rg_U} (hF : 64 < F) : g_X5_size F o u = some (nI (cntK (u.2.1 (o + 1)) 64)) := by
  unfold g_X5_size
  have h := lp_up (body := fun (s : Int32 × Int32) => g_X5_size_l4 F o u s.1 s.2) (fun k => (nI (cntK (u.2.1 (o + 1)) k), nI k)) 64 (nI (cntK (u.2.1 (o + 1)) 64)) (fun k hk => by
    show g_X5_size_l4 F o u (nI (cntK (u.2.1 (o + 1)) k)) (nI k) = _
    unfold g_X5_size_l4
    rw [if_neg (show ¬ (64 : Int32) ≤ nI k from nI_ge (a := k) (b := 64) hk (by decide)), ck_t (inb_nI hk (by decide)), rA_nI (by omega)]
    unfold g_X5_size_j23
    by_cases q : u.2.1 (o + 1) k = -1
    · rw [if_pos q, nI_1]
      show _ = some (Sum.inl (nI (cntK (u.2.1 (o + 1)) k + if u.2.1 (o + 1) k = -1 then 0 else 1), nI (k + 1)))
      rw [if_pos q]; rfl
    · rw [if_neg q, nI_1, nI_1]
      show _ = some (Sum.inl (nI (cntK (u.2.1 (o + 1)) k + if u.2.1 (o + 1) k = -1 then 0 else 1), nI (k + 1)))
      rw [if_neg q]) (by
    show g_X5_size_l4 F o u _ (nI 64) = _
    unfold g_X5_size_l4
    rw [if_pos (by decide)]) F 0 (Nat.zero_le _) (by omega)
  rw [show (nI (cntK (u.2.1 (o + 1)) 0), nI 0) = ((0 : Int32), (0 : Int32)) from rfl] at h
  rw [h]
  rfl
/-- a run that has just begun, as the class has it at 116 -/
def c_begun (u : rg_U) : rg_U := sF (sF (sF (sF (sF (sA (sA (sA (sA (sF (sF (sA (sF (sF (sF (sFill (sF (sF u 122 5 0) 128 11 0) 139 40 (-1)) 140 3 0) 144 3 (rF u 0 9)) 144 4 (rF u 0 10)) 145 0 0) 144 1 1) 144 2 1) 146 0 0) 147 0 0) 148 0 0) 149 0 (-1)) 116 9 0) 116 10 0) 116 11 (-1)) 116 12 0) 116 13 0
theorem c_begin {F : Nat} {u : rg_U} (hF : 10000 < F) : ∃ v, same0 (sG u 0 7 (some 116)) v ∧ (∀ j i, v.2.1 j i = if (118 ≤ j ∧ j ≤ 121) ∧ i < 64 then u.2.1 (j - 116) i else u.2.1 j i) ∧ g_X9_begin F u = some (nI (cntK (u.2.1 2) 64), sF (sF (c_begun v) 6 1 0) 6 2 0) := by
  obtain ⟨v, e1, h0, hv⟩ := c_takeFromP (F := F) (o := 117) (p := 1) (u := sG u 0 7 (some 116)) (by omega) (by omega)
  have hv2 : ∀ j i, v.2.1 j i = if (118 ≤ j ∧ j ≤ 121) ∧ i < 64 then u.2.1 (j - 116) i else u.2.1 j i := fun j i => by
    rw [hv j i]
    by_cases q : (118 ≤ j ∧ j ≤ 121) ∧ i < 64
    · rw [if_pos q, if_pos q, show j - 117 + 1 = j - 116 by omega]; rfl
    · rw [if_neg q, if_neg q]; rfl
  refine ⟨v, h0, hv2, ?_⟩
  unfold g_X9_begin
  rw [lt1_i, show rG (sG u 0 7 (some 116)) 0 7 = some 116 from rfl, om_i, ck_t (Or.inl rfl)]
  have e2 : g_X7_start F 116 1 (rF (sG u 0 7 (some 116)) 0 9) (rF (sG u 0 7 (some 116)) 0 10) (sG u 0 7 (some 116)) = some (c_begun v) := by
    unfold g_X7_start
    rw [e1, ob_i]
    simp only [lt1_i]
    unfold g_X6_clear
    simp only [lt1_i]
    rw [g_fill_eq (by decide) (by omega), ob_i, ob_i]
    unfold g_X2_start
    simp only [lt1_i]
    rw [ck_t (by decide), ob_i, ck_t (by decide), ck_t (by decide), ck_t (by decide), ck_t (by decide)]
    have r9 : rF (sG u 0 7 (some 116)) 0 9 = rF v 0 9 := by unfold rF; rw [h0.1]
    have r10 : rF (sG u 0 7 (some 116)) 0 10 = rF v 0 10 := by unfold rF; rw [h0.1]
    rw [r9, r10]
    rfl
  rw [e2, ob_i]
  unfold g_X4_clearInputs
  simp only [lt1_i]
  rw [ob_i, c_size (by omega), ob_i]
  have e3 : (sF (sF (c_begun v) 6 1 0) 6 2 0).2.1 2 = u.2.1 2 := by
    funext i
    show v.2.1 2 i = _
    rw [hv2, if_neg (by omega)]
  rw [e3]
end W_4
