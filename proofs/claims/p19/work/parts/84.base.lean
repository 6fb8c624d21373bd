/-! PURE: words for what follows -/
theorem ck_t {α : Type} {p : Prop} [Decidable p] {a : Option α} (h : p) : ck p a = a := if_pos h
theorem ob_i {α β : Type} {y : α} {f : α → Option β} : ob (some y) f = f y := rfl
theorem ob_e {α β : Type} {x : Option α} {y : α} {f : α → Option β} (h : x = some y) : ob x f = f y := by rw [h]; rfl
theorem om_i {α β : Type} {y : α} {a : Option β} {f : α → Option β} : om (some y) a f = f y := rfl
theorem om_0 {α β : Type} {a : Option β} {f : α → Option β} : om (none : Option α) a f = a := rfl
theorem lt1_i {α β : Type} {x : α} {f : α → β} : lt1 x f = f x := rfl
theorem inb_nI {k N : Nat} (h : k < N) (hN : N < 2 ^ 31) : inb (nI k) N := by
  unfold inb
  rw [nI_toInt (by omega)]
  omega
theorem inb_of {x : Int32} {N : Nat} (h : inb x N) (hN : N < 2 ^ 31) : ∃ k : Nat, k < N ∧ x = nI k := vp_in_of (vp_in_iff.mpr h) hN
theorem lp_ex {σ ρ : Type} {body : σ → Option (σ ⊕ ρ)} {P : Nat → σ → Prop} {R : ρ → Prop} (h : ∀ k s, P k s → (∃ s' k', body s = some (.inl s') ∧ k' < k ∧ P k' s') ∨ ∃ r, body s = some (.inr r) ∧ R r) : ∀ (f k : Nat) (s : σ), k < f → P k s → ∃ r, lp body f s = some r ∧ R r
  | 0, k, s, h1, h2 => by omega
  | f + 1, k, s, h1, h2 => by
    rcases h k s h2 with ⟨s', k', e, hk, hP⟩ | ⟨r, e, hR⟩
    · obtain ⟨r, e2, hR⟩ := lp_ex h f k' s' (by omega) hP
      refine ⟨r, ?_, hR⟩
      unfold lp
      rw [e]
      exact e2
    · refine ⟨r, ?_, hR⟩
      unfold lp
      rw [e]
theorem rF_sF {u : rg_U} {j s j' s' : Nat} {v : Int32} : rF (sF u j s v) j' s' = if 100 * j' + s' = 100 * j + s then v else rF u j' s' := rfl
theorem rF_sA {u : rg_U} {j j' s' : Nat} {i v : Int32} : rF (sA u j i v) j' s' = rF u j' s' := rfl
theorem rF_sZ {u : rg_U} {j j' s' : Nat} {i v : Int32} : rF (sZ u j i v) j' s' = rF u j' s' := rfl
theorem rF_sG {u : rg_U} {j s j' s' : Nat} {v : Option Nat} : rF (sG u j s v) j' s' = rF u j' s' := rfl
theorem rA_sF {u : rg_U} {j s j' : Nat} {v i : Int32} : rA (sF u j s v) j' i = rA u j' i := rfl
theorem rA_sG {u : rg_U} {j s j' : Nat} {v : Option Nat} {i : Int32} : rA (sG u j s v) j' i = rA u j' i := rfl
theorem rG_sF {u : rg_U} {j s j' s' : Nat} {v : Int32} : rG (sF u j s v) j' s' = rG u j' s' := rfl
theorem rG_sA {u : rg_U} {j j' s' : Nat} {i v : Int32} : rG (sA u j i v) j' s' = rG u j' s' := rfl
theorem rQ_sF {u : rg_U} {j s j' : Nat} {v i : Int32} : rQ (sF u j s v) j' i = rQ u j' i := rfl
theorem rA_sA {u : rg_U} {j j' : Nat} {i i' v : Int32} : rA (sA u j i v) j' i' = if j' = j then (if i'.toNatClampNeg = i.toNatClampNeg then v else rA u j i') else rA u j' i' := by
  unfold rA sA rg_R va_up upd
  dsimp only
  by_cases h : j' = j
  · rw [if_pos h, if_pos h]
  · rw [if_neg h, if_neg h]
theorem in_iff {v lo hi : Int32} : g_X10_isIn v lo hi = if lo ≤ v ∧ v ≤ hi then 1 else 0 := by
  unfold g_X10_isIn
  simp only [Int32.lt_iff_toInt_lt, Int32.le_iff_toInt_le]
  by_cases h : v.toInt < lo.toInt
  · rw [if_pos h, if_neg (by omega)]
  · rw [if_neg h]
    by_cases h2 : hi.toInt < v.toInt
    · rw [if_pos h2, if_neg (by omega)]
    · rw [if_neg h2, if_pos (by omega)]
theorem in_0 {v lo hi : Int32} : g_X10_isIn v lo hi = 0 ↔ ¬ (lo ≤ v ∧ v ≤ hi) := by
  rw [in_iff]
  by_cases h : lo ≤ v ∧ v ≤ hi
  · rw [if_pos h]; exact ⟨fun q => absurd q (by decide), fun q => absurd h q⟩
  · rw [if_neg h]; exact ⟨fun _ => h, fun _ => rfl⟩
theorem in_1 {v lo hi : Int32} : g_X10_isIn v lo hi = 1 ↔ lo ≤ v ∧ v ≤ hi := by
  rw [in_iff]
  by_cases h : lo ≤ v ∧ v ≤ hi
  · rw [if_pos h]; exact ⟨fun _ => h, fun _ => rfl⟩
  · rw [if_neg h]; exact ⟨fun q => absurd q (by decide), fun q => absurd q h⟩
theorem in_b {v lo hi : Int32} : g_X10_isIn v lo hi = 0 ∨ g_X10_isIn v lo hi = 1 := by
  rw [in_iff]
  by_cases h : lo ≤ v ∧ v ≤ hi
  · rw [if_pos h]; exact Or.inr rfl
  · rw [if_neg h]; exact Or.inl rfl
/-- a number between two that are not below 0 -/
theorem in_nat {v lo hi : Int32} (h : ¬ g_X10_isIn v lo hi = 0) (h0 : 0 ≤ lo.toInt) : ∃ K : Nat, v = nI K ∧ lo.toInt ≤ (K : Int) ∧ (K : Int) ≤ hi.toInt := by
  have h1 : lo ≤ v ∧ v ≤ hi := Classical.byContradiction fun q => h (in_0.mpr q)
  rw [Int32.le_iff_toInt_le, Int32.le_iff_toInt_le] at h1
  obtain ⟨K, hK, hv⟩ := nI_of (x := v) (by rw [Int32.lt_iff_toInt_lt]; have : (0 : Int32).toInt = 0 := rfl; omega)
  refine ⟨K, hv, ?_, ?_⟩
  · have := nI_toInt hK; rw [hv, this] at h1; omega
  · have := nI_toInt hK; rw [hv, this] at h1; omega
theorem in_nI {K a b : Nat} (h1 : a ≤ K) (h2 : K ≤ b) (hb : b < 2 ^ 31) : ¬ g_X10_isIn (nI K) (nI a) (nI b) = 0 := by
  rw [in_0]
  exact fun q => q ⟨nI_le h1 (by omega), nI_le h2 hb⟩
/-- the class's words for the same -/
theorem cl_place {x : Int32} : g_X9_isPlace x = g_X10_isPlace x := by
  unfold g_X9_isPlace g_X10_isPlace g_X10_isIn
  have e : (40 : Int32) ≤ x ↔ (39 : Int32) < x := by
    rw [Int32.lt_iff_toInt_lt, Int32.le_iff_toInt_le]
    have h1 : (40 : Int32).toInt = 40 := rfl
    have h2 : (39 : Int32).toInt = 39 := rfl
    omega
  simp only [e]
theorem cl_ipl {x : Int32} : g_X9_isInstructionPlace x = g_X10_isIn x 0 63 := by
  unfold g_X9_isInstructionPlace g_X10_isIn
  have e : (64 : Int32) ≤ x ↔ (63 : Int32) < x := by
    rw [Int32.lt_iff_toInt_lt, Int32.le_iff_toInt_le]
    have h1 : (64 : Int32).toInt = 64 := rfl
    have h2 : (63 : Int32).toInt = 63 := rfl
    omega
  simp only [e]
theorem cl_reg {x : Int32} : (if x < 0 then (0 : Int32) else if 8 ≤ x then 0 else 1) = g_X10_isRegister x := by
  unfold g_X10_isRegister g_X10_isIn
  have e : (8 : Int32) ≤ x ↔ (7 : Int32) < x := by
    rw [Int32.lt_iff_toInt_lt, Int32.le_iff_toInt_le]
    have h1 : (8 : Int32).toInt = 8 := rfl
    have h2 : (7 : Int32).toInt = 7 := rfl
    omega
  simp only [e]
theorem cl_flag {x : Int32} : (if x = 0 then (1 : Int32) else if x = 1 then 1 else 0) = g_X10_isIn x 0 1 := by
  by_cases h0 : x = 0
  · subst h0; decide
  · by_cases h1 : x = 1
    · subst h1; decide
    · rw [if_neg h0, if_neg h1, eq_comm, in_0]
      rintro ⟨q1, q2⟩
      rw [Int32.le_iff_toInt_le] at q1 q2
      have e1 : (1 : Int32).toInt = 1 := rfl
      have e0 : (0 : Int32).toInt = 0 := rfl
      rcases (show x.toInt = 0 ∨ x.toInt = 1 by omega) with q | q
      · exact h0 (Int32.toInt_inj.mp q)
      · exact h1 (Int32.toInt_inj.mp q)
theorem cl_unit {x : Int32} : g_X9_isUnit x = g_X10_isIn x 1 64 := rfl
theorem cl_depth {x : Int32} : g_X9_isDepth x = g_X10_isIn x 1 8 := rfl
theorem cl_time {x : Int32} : g_X9_isAnyTime x = g_X10_isIn x 0 3000 := rfl
theorem cl_value {s x : Int32} : g_X9_isValue s x = g_X10_isValue s x := by
  unfold g_X9_isValue g_X10_isValue
  by_cases h0 : s = 0
  · rw [if_pos h0, if_pos h0]
  · rw [if_neg h0, if_neg h0, cl_flag]
theorem sp_iff {x y : Int32} : g_X10_isSpacing x y = if g_X10_isIn x 1 64 = 0 then 0 else g_X10_isIn y 1 8 := by
  unfold g_X10_isSpacing
  by_cases h : g_X10_isIn x 1 64 = 0
  · rw [if_pos h, if_pos h]
  · rw [if_neg h, if_neg h]
    rcases in_b (v := y) (lo := 1) (hi := 8) with q | q
    · rw [q]; rfl
    · rw [q]; rfl
def tzf : Nat → Nat → Nat
  | 0, _ => 0
  | f + 1, k => if k % 2 = 1 then 0 else tzf f (k / 2) + 1
def tz (k : Nat) : Nat := tzf 31 k
theorem tzf_spec : ∀ (f k : Nat), 0 < k → k < 2 ^ f → (∀ y, y < tzf f k → k / 2 ^ y % 2 = 0) ∧ k / 2 ^ tzf f k % 2 = 1 ∧ tzf f k < f
  | 0, k, h0, h1 => by simp at h1; omega
  | f + 1, k, h0, h1 => by
    unfold tzf
    by_cases h : k % 2 = 1
    · rw [if_pos h]
      exact ⟨fun y hy => absurd hy (Nat.not_lt_zero y), by simpa using h, Nat.succ_pos f⟩
    · rw [if_neg h]
      have h2 : 0 < k / 2 := by omega
      have h3 : k / 2 < 2 ^ f := by rw [Nat.pow_succ] at h1; omega
      obtain ⟨a1, a2, a3⟩ := tzf_spec f (k / 2) h2 h3
      refine ⟨fun y hy => ?_, ?_, by omega⟩
      · cases y with
        | zero => simp; omega
        | succ y =>
          have := a1 y (by omega)
          rwa [Nat.div_div_eq_div_mul, Nat.mul_comm, ← Nat.pow_succ] at this
      · rw [Nat.pow_succ, Nat.mul_comm, ← Nat.div_div_eq_div_mul]
        exact a2
theorem tz_spec {k : Nat} (h0 : 0 < k) (h1 : k < 2 ^ 31) : (∀ y, y < tz k → k / 2 ^ y % 2 = 0) ∧ k / 2 ^ tz k % 2 = 1 ∧ tz k < 31 := tzf_spec 31 k h0 h1
theorem bit_at {k z : Nat} (hk : k < 2 ^ 31) (hz : z < 32) : (nI k >>> (nI z &&& 31)) &&& 1 = nI (k / 2 ^ z % 2) := by
  have h1 : ∀ n, n < 32 → ((nI n &&& 31).toBitVec.smod 32).toNat = n := by decide +kernel
  rw [pk_shrN hk (nI z &&& 31) z (h1 z hz)]
  have := pk_andN (n := k / 2 ^ z) (m := 1) (by have := Nat.div_le_self k (2 ^ z); omega) 1 (by decide)
  simpa using this
def gw (k d : Nat) : Nat := k + d * 2 ^ tz k
theorem tz_le {k : Nat} (h0 : 0 < k) (h1 : k < 2 ^ 31) : 2 ^ tz k ≤ k := by
  have h := (tz_spec h0 h1).2.1
  rcases Nat.lt_or_ge k (2 ^ tz k) with q | q
  · rw [Nat.div_eq_of_lt q] at h; cases h
  · exact q
theorem gw_le {k d : Nat} (h0 : 0 < k) (hk : k ≤ 3000) (hd : d ≤ 8) : gw k d ≤ 27000 := by
  have h1 := tz_le h0 (by omega : k < 2 ^ 31)
  unfold gw
  have h2 : d * 2 ^ tz k ≤ 8 * 3000 := Nat.mul_le_mul hd (by omega)
  omega
theorem shl_tz {k d : Nat} (h0 : 0 < k) (hk : k ≤ 3000) (hd : d ≤ 8) : nI d <<< (nI (tz k) &&& 31) = nI (d * 2 ^ tz k) := by
  have h1 : ∀ n, n < 32 → ((nI n &&& 31).toBitVec.smod 32).toNat = n := by decide +kernel
  have h2 := tz_le h0 (by omega : k < 2 ^ 31)
  have h3 : d * 2 ^ tz k ≤ 8 * 3000 := Nat.mul_le_mul hd (by omega)
  exact pk_shlN _ _ (h1 _ (by have := (tz_spec h0 (by omega : k < 2 ^ 31)).2.2; omega)) (by omega)
def wb (k now d : Nat) : Bool := k == 0 || decide (now < gw k d)
def wc (now d : Nat) : Nat → Nat
  | 0 => 0
  | k + 1 => wc now d k + (if wb k now d then 1 else 0)
theorem wc_le (now d k : Nat) : wc now d k ≤ k := by
  induction k with
  | zero => exact Nat.le_refl _
  | succ k ih => unfold wc; split <;> omega
def gp (U E T : Nat) : Nat → Nat × Nat
  | 0 => (0, 0)
  | k + 1 => (max (gp U E T k).1 (k - (if k % U = 0 ∧ wb (k / U) (T / U) E = true then k else (gp U E T k).2)), if k % U = 0 ∧ wb (k / U) (T / U) E = true then k else (gp U E T k).2)
theorem gp_le (U E T k : Nat) : (gp U E T k).1 ≤ k ∧ (gp U E T k).2 ≤ k := by
  induction k with
  | zero => exact ⟨Nat.le_refl _, Nat.le_refl _⟩
  | succ k ih =>
    unfold gp
    dsimp only
    split <;> constructor <;> omega
theorem gp_yes {U E T k : Nat} (h : k % U = 0) (h2 : wb (k / U) (T / U) E = true) : gp U E T (k + 1) = (max (gp U E T k).1 (k - k), k) := by
  show (max (gp U E T k).1 (k - (if k % U = 0 ∧ wb (k / U) (T / U) E = true then k else (gp U E T k).2)), if k % U = 0 ∧ wb (k / U) (T / U) E = true then k else (gp U E T k).2) = _
  rw [if_pos ⟨h, h2⟩]
theorem gp_no {U E T k : Nat} (h : ¬ (k % U = 0 ∧ wb (k / U) (T / U) E = true)) : gp U E T (k + 1) = (max (gp U E T k).1 (k - (gp U E T k).2), (gp U E T k).2) := by
  show (max (gp U E T k).1 (k - (if k % U = 0 ∧ wb (k / U) (T / U) E = true then k else (gp U E T k).2)), if k % U = 0 ∧ wb (k / U) (T / U) E = true then k else (gp U E T k).2) = _
  rw [if_neg h]
theorem nI_max {a b : Nat} (ha : a < 2 ^ 31) (hb : b < 2 ^ 31) : (if nI a < nI b then nI b else nI a) = nI (max a b) := by
  by_cases h : a < b
  · rw [if_pos (nI_lt h hb), Nat.max_eq_right (by omega)]
  · rw [if_neg (nI_nlt (by omega) ha), Nat.max_eq_left (by omega)]
theorem nI_nz {a : Nat} (h : ¬ nI a = 0) : ¬ a = 0 := fun q => h (by rw [q]; rfl)
theorem nI_zz {a : Nat} (h : nI a = 0) (ha : a < 2 ^ 31) : a = 0 := by
  rcases Nat.eq_zero_or_pos a with q | q
  · exact q
  · exact absurd h (nI_ne0 q ha)
def spf (E T : Nat) (y : Int32) : Nat → Nat → Int32
  | 0, _ => -1
  | f + 1, U => if nI (wc (T / U) E (T / U + 1)) ≤ y then nI U else spf E T y f (U + 1)
theorem lowbit2 : ∀ a, a < 55 → ∀ b, b < 55 → 0 < 55 * a + b → nI (55 * a + b) &&& -nI (55 * a + b) = nI (2 ^ tz (55 * a + b)) := by decide +kernel
theorem lowbit (K : Nat) (h : K < 3001) (h0 : 0 < K) : nI K &&& -nI K = nI (2 ^ tz K) := by
  have := lowbit2 (K / 55) (by omega) (K % 55) (by omega)
  rw [Nat.div_add_mod] at this
  exact this h0
theorem wc_no {now e k : Nat} (h : wb k now e = false) : wc now e (k + 1) = wc now e k := by
  show wc now e k + (if wb k now e then 1 else 0) = _
  simp [h]
theorem wc_yes {now e k : Nat} (h : wb k now e = true) : wc now e (k + 1) = wc now e k + 1 := by
  show wc now e k + (if wb k now e then 1 else 0) = _
  simp [h]
theorem wb_pos {k now e : Nat} (h : 0 < k) : wb k now e = decide (now < gw k e) := by
  have : (k == 0) = false := by simp; omega
  simp [wb, this]
def cg (U E N : Nat) : Nat → Nat × Nat
  | 0 => (0, 0)
  | k + 1 => if wb (k + 1) N E = true then (max (cg U E N k).1 ((k + 1) * U - 1 - (cg U E N k).2), (k + 1) * U) else cg U E N k
theorem cg_le (U E N k : Nat) : (cg U E N k).1 ≤ k * U ∧ (cg U E N k).2 ≤ k * U := by
  induction k with
  | zero => exact ⟨Nat.zero_le _, Nat.zero_le _⟩
  | succ k ih =>
    have hk : k * U ≤ (k + 1) * U := Nat.mul_le_mul_right U (Nat.le_succ k)
    unfold cg
    split
    · exact ⟨by dsimp only; omega, Nat.le_refl _⟩
    · exact ⟨Nat.le_trans ih.1 hk, Nat.le_trans ih.2 hk⟩
theorem cg_yes {U E N k : Nat} (h : wb (k + 1) N E = true) : cg U E N (k + 1) = (max (cg U E N k).1 ((k + 1) * U - 1 - (cg U E N k).2), (k + 1) * U) := by
  show (if wb (k + 1) N E = true then _ else _) = _
  rw [if_pos h]
theorem cg_no {U E N k : Nat} (h : wb (k + 1) N E = false) : cg U E N (k + 1) = cg U E N k := by
  show (if wb (k + 1) N E = true then _ else _) = _
  rw [if_neg (by rw [h]; decide)]
theorem gp_run {U E T B a s : Nat} (ha : a ≤ s) (hs : gp U E T (s + 1) = (max B (s - a), a)) : ∀ j, (∀ i, i < j → ¬ ((s + 1 + i) % U = 0 ∧ wb ((s + 1 + i) / U) (T / U) E = true)) → gp U E T (s + 1 + j) = (max B (s + j - a), a)
  | 0, _ => hs
  | j + 1, h => by
    have ih := gp_run ha hs j (fun i hi => h i (by omega))
    rw [show s + 1 + (j + 1) = (s + 1 + j) + 1 by omega, gp_no (h j (Nat.lt_succ_self j)), ih]
    congr 1
    simp only [Nat.max_def]
    repeat' split
    all_goals omega
theorem gp_cg {U E T : Nat} (hU : 0 < U) : ∀ k, gp U E T (k * U + 1) = (max (cg U E (T / U) k).1 (k * U - (cg U E (T / U) k).2), (cg U E (T / U) k).2)
  | 0 => by
    rw [Nat.zero_mul]
    show gp U E T (0 + 1) = _
    rw [gp_yes (Nat.zero_mod U) (by rw [Nat.zero_div]; rfl)]
    rfl
  | k + 1 => by
    have ih := gp_cg (E := E) (T := T) hU k
    have hle := (cg_le U E (T / U) k).2
    have hm : (k + 1) * U = k * U + U := Nat.succ_mul k U
    have h1 := gp_run hle ih (U - 1) (fun i hi q => by
      have e1 : (k * U + 1 + i) % U = (1 + i) % U := by rw [show k * U + 1 + i = (1 + i) + k * U by omega, Nat.add_mul_mod_self_right]
      rw [e1, Nat.mod_eq_of_lt (by omega)] at q
      omega)
    have e2 : k * U + 1 + (U - 1) = (k + 1) * U := by omega
    rw [e2] at h1
    have hd : (k + 1) * U / U = k + 1 := Nat.mul_div_cancel _ hU
    have hr : (k + 1) * U % U = 0 := Nat.mul_mod_left _ _
    cases hw : wb (k + 1) (T / U) E with
    | true =>
      rw [gp_yes hr (by rw [hd]; exact hw), h1, cg_yes hw]
      congr 1
      simp only [Nat.max_def]
      repeat' split
      all_goals omega
    | false =>
      rw [gp_no (fun q => by rw [hd, hw] at q; exact absurd q.2 (by decide)), h1, cg_no hw]
      congr 1
      simp only [Nat.max_def]
      repeat' split
      all_goals omega
theorem gap_n {U E T : Nat} (hU : 0 < U) : (gp U E T (T + 1)).1 = max (cg U E (T / U) (T / U)).1 (T - (cg U E (T / U) (T / U)).2) := by
  have hle := (cg_le U E (T / U) (T / U)).2
  have hq := Nat.div_mul_le_self T U
  have h0 : T / U * U + T % U = T := by rw [Nat.mul_comm]; exact Nat.div_add_mod T U
  have hl := Nat.mod_lt T hU
  have h1 := gp_run hle (gp_cg (E := E) (T := T) hU (T / U)) (T % U) (fun i hi q => by
    have e1 : (T / U * U + 1 + i) % U = (1 + i) % U := by rw [show T / U * U + 1 + i = (1 + i) + T / U * U by omega, Nat.add_mul_mod_self_right]
    rw [e1, Nat.mod_eq_of_lt (by omega)] at q
    omega)
  rw [show T / U * U + 1 + T % U = T + 1 by omega, show T / U * U + T % U = T from h0] at h1
  rw [h1]
