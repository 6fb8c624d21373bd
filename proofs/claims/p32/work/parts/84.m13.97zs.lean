section W_59
-- 97zs.hold
/-! the class's list of what is held -/
def cn (P : Nat → Bool) : Nat → Nat
  | 0 => 0
  | k + 1 => cn P k + (if P k = true then 1 else 0)
theorem cn_y {P : Nat → Bool} {k : Nat} (h : P k = true) : cn P (k + 1) = cn P k + 1 := by
  show cn P k + (if P k = true then 1 else 0) = _
  rw [if_pos h]
theorem cn_n {P : Nat → Bool} {k : Nat} (h : ¬ P k = true) : cn P (k + 1) = cn P k := by
  show cn P k + (if P k = true then 1 else 0) = _
  rw [if_neg h, Nat.add_zero]
theorem cn_mono {P Q : Nat → Bool} : ∀ M, (∀ k, k < M → P k = true → Q k = true) → cn P M ≤ cn Q M
  | 0, _ => Nat.le_refl _
  | M + 1, h => by
    have ih := cn_mono M (fun k hk => h k (by omega))
    by_cases q : P M = true
    · rw [cn_y q, cn_y (h M (by omega) q)]; omega
    · rw [cn_n q]
      by_cases q2 : Q M = true
      · rw [cn_y q2]; omega
      · rw [cn_n q2]; exact ih
theorem cn_more {P : Nat → Bool} {M : Nat} : ∀ N, M ≤ N → cn P M ≤ cn P N
  | 0, h => by rw [show M = 0 by omega]; exact Nat.le_refl _
  | N + 1, h => by
    rcases Nat.lt_or_ge N M with y | y
    · rw [show M = N + 1 by omega]; exact Nat.le_refl _
    · have ih := cn_more (P := P) N y
      by_cases q : P N = true
      · rw [cn_y q]; omega
      · rw [cn_n q]; exact ih
theorem cn_two {P : Nat → Bool} : ∀ M, cn P (2 * M) = cn (fun k => P (2 * k)) M + cn (fun k => P (2 * k + 1)) M
  | 0 => rfl
  | M + 1 => by
    rw [show 2 * (M + 1) = 2 * M + 1 + 1 by omega]
    show cn P (2 * M) + (if P (2 * M) = true then 1 else 0) + (if P (2 * M + 1) = true then 1 else 0) = (cn (fun k => P (2 * k)) M + (if P (2 * M) = true then 1 else 0)) + (cn (fun k => P (2 * k + 1)) M + (if P (2 * M + 1) = true then 1 else 0))
    rw [cn_two M]
    omega
theorem cn_win {P : Nat → Bool} {lo c : Nat} : ∀ M, (∀ k, k < M → P k = true → lo ≤ k ∧ k < lo + c) → cn P M ≤ M - lo ∧ cn P M ≤ c
  | 0, _ => ⟨Nat.zero_le _, Nat.zero_le _⟩
  | M + 1, h => by
    have ih := cn_win M (fun k hk => h k (by omega))
    by_cases q : P M = true
    · have := h M (by omega) q
      rw [cn_y q]; omega
    · rw [cn_n q]; omega
theorem tzf_f : ∀ (f k : Nat), 0 < k → k < 2 ^ f → tzf f k = tzf (f + 1) k
  | 0, k, h0, h1 => by simp at h1; omega
  | f + 1, k, h0, h1 => by
    rw [tzf, tzf]
    by_cases h : k % 2 = 1
    · rw [if_pos h, if_pos h]
    · rw [if_neg h, if_neg h, tzf_f f (k / 2) (by omega) (by rw [Nat.pow_succ] at h1; omega)]
theorem tz_two {k : Nat} (h0 : 0 < k) (hk : k < 2 ^ 30) : tz (2 * k) = tz k + 1 := by
  unfold tz
  rw [tzf, if_neg (by omega), show 2 * k / 2 = k by omega, tzf_f 30 k h0 hk]
theorem gw_two {k d : Nat} (h0 : 0 < k) (hk : k < 2 ^ 30) : gw (2 * k) d = 2 * gw k d := by
  unfold gw
  rw [tz_two h0 hk, Nat.pow_succ, Nat.mul_add, ← Nat.mul_assoc, Nat.mul_comm (d * 2 ^ tz k) 2]
theorem gw_odd {k d : Nat} (h : k % 2 = 1) : gw k d = k + d := by
  unfold gw tz
  rw [tzf, if_pos h, Nat.pow_zero, Nat.mul_one]
def heldP (w d k : Nat) : Bool := decide (0 < k ∧ k ≤ w ∧ w < gw k d)
theorem heldP_i {w d k : Nat} : heldP w d k = true ↔ 0 < k ∧ k ≤ w ∧ w < gw k d := by
  unfold heldP
  exact decide_eq_true_iff
theorem held_cn {d : Nat} (hd : d ≤ 8) : ∀ (b w M : Nat), w < 2 ^ b → w < 2 ^ 30 → cn (heldP w d) M ≤ 4 * b
  | 0, w, M, h, _ => by
    have h0 : w = 0 := by simp at h; exact h
    have := (cn_win (P := heldP w d) (lo := 0) (c := 0) M (fun k _ q => by have := heldP_i.mp q; omega)).2
    omega
  | b + 1, w, M, h, h30 => by
    have h1 := cn_more (P := heldP w d) (M := M) (2 * M) (by omega)
    rw [cn_two M] at h1
    have h2 := cn_mono (P := fun k => heldP w d (2 * k)) (Q := heldP (w / 2) d) M (fun k _ q => by
      obtain ⟨q1, q2, q3⟩ := heldP_i.mp q
      rw [gw_two (by omega) (by omega)] at q3
      exact heldP_i.mpr ⟨by omega, by omega, by omega⟩)
    have h3 := held_cn hd b (w / 2) M (by rw [Nat.pow_succ] at h; omega) (by omega)
    have h4 := (cn_win (P := fun k => heldP w d (2 * k + 1)) (lo := (w - 7) / 2) (c := 4) M (fun k _ q => by
      obtain ⟨q1, q2, q3⟩ := heldP_i.mp q
      rw [gw_odd (by omega)] at q3
      omega)).2
    omega
/-- never more than 49 are held -/
theorem cH_49 {H : Nat → Int32} {w d : Nat} (hd : d ≤ 8) (hw : w ≤ 3000) (h : ∀ k, k ≤ 3000 → ¬ H k = 0 → k = 0 ∨ (k ≤ w ∧ w < gw k d)) : cH H 3001 ≤ 49 := by
  have key : ∀ M, M ≤ 3001 → cH H M ≤ (if M = 0 then 0 else 1) + cn (heldP w d) M := by
    intro M
    induction M with
    | zero => intro _; exact Nat.zero_le _
    | succ M ih =>
      intro hM
      have ih := ih (by omega)
      rw [if_neg (by omega)]
      show cH H M + (if H M = 0 then 0 else 1) ≤ _
      by_cases q : H M = 0
      · rw [if_pos q]
        have := cn_more (P := heldP w d) (M := M) (M + 1) (by omega)
        split at ih <;> omega
      · rw [if_neg q]
        rcases h M (by omega) q with e | ⟨e1, e2⟩
        · subst e
          show cH H 0 + 1 ≤ 1 + _
          exact Nat.le_add_right _ _
        · by_cases e0 : M = 0
          · subst e0
            show cH H 0 + 1 ≤ 1 + _
            exact Nat.le_add_right _ _
          · rw [if_neg e0] at ih
            rw [cn_y (heldP_i.mpr ⟨by omega, e1, e2⟩)]
            omega
  have h1 := key 3001 (Nat.le_refl _)
  have h2 := held_cn hd 12 w 3001 (by omega) (by omega)
  rw [if_neg (by decide)] at h1
  omega
/-- f lists those of S, rising -/
def HL (f : Nat → Nat) (n : Nat) (S : Nat → Prop) : Prop := (∀ i j, i < j → j < n → f i < f j) ∧ ∀ k, S k ↔ ∃ i, i < n ∧ f i = k
theorem HL_le {f : Nat → Nat} {n i j : Nat} {S : Nat → Prop} (h : HL f n S) (hij : i ≤ j) (hj : j < n) : f i ≤ f j := by
  rcases Nat.lt_or_ge i j with y | y
  · exact Nat.le_of_lt (h.1 i j y hj)
  · rw [show i = j by omega]; exact Nat.le_refl _
theorem HL_count {H : Nat → Int32} {f : Nat → Nat} {n : Nat} (h : HL f n (fun k => k ≤ 3000 ∧ ¬ H k = 0)) : cH H 3001 = n := by
  have key : ∀ M, M ≤ 3001 → ∃ i, i ≤ n ∧ cH H M = i ∧ (∀ j, j < i → f j < M) ∧ ∀ j, i ≤ j → j < n → M ≤ f j := by
    intro M
    induction M with
    | zero => exact fun _ => ⟨0, Nat.zero_le _, rfl, fun j hj => by omega, fun j _ _ => Nat.zero_le _⟩
    | succ M ih =>
      intro hM
      obtain ⟨i, h1, h2, h3, h4⟩ := ih (by omega)
      by_cases q : H M = 0
      · refine ⟨i, h1, ?_, fun j hj => by have := h3 j hj; omega, fun j a b => ?_⟩
        · show cH H M + (if H M = 0 then 0 else 1) = i
          rw [if_pos q]; exact h2
        · have := h4 j a b
          rcases Nat.lt_or_ge M (f j) with y | y
          · exact y
          · have e : f j = M := by omega
            have := (h.2 (f j)).mpr ⟨j, b, rfl⟩
            rw [e] at this
            exact absurd q this.2
      · obtain ⟨a, ha, e⟩ := (h.2 M).mp ⟨by omega, q⟩
        have ea : a = i := by
          rcases Nat.lt_trichotomy a i with y | y | y
          · have := h3 a y; omega
          · exact y
          · have h5 := h4 i (Nat.le_refl _) (by omega)
            have h6 := h.1 i a y ha
            omega
        subst ea
        refine ⟨a + 1, by omega, ?_, fun j hj => ?_, fun j b1 b2 => ?_⟩
        · show cH H M + (if H M = 0 then 0 else 1) = a + 1
          rw [if_neg q, h2]
        · rcases Nat.lt_or_ge j a with y | y
          · have := h3 j y; omega
          · rw [show j = a by omega]; omega
        · have := h.1 a j (by omega) b2
          omega
  obtain ⟨i, h1, h2, h3, h4⟩ := key 3001 (Nat.le_refl _)
  rcases Nat.lt_or_ge i n with y | y
  · have h5 := h4 i (Nat.le_refl _) y
    have := (h.2 (f i)).mpr ⟨i, y, rfl⟩
    omega
  · omega
theorem hk_is {H : Nat → Int32} {k : Nat} : ∀ K, k ≤ K → (k = 0 ∨ ¬ H k = 0) → (∀ j, k < j → j ≤ K → H j = 0) → hk H K = k
  | 0, h, _, _ => by rw [show k = 0 by omega]; rfl
  | K + 1, h, h0, hz => by
    unfold hk
    by_cases e : k = K + 1
    · subst e
      rcases h0 with z | z
      · omega
      · rw [if_neg z]
    · rw [if_pos (hz (K + 1) (by omega) (Nat.le_refl _))]
      exact hk_is K (by omega) h0 (fun j h1 h2 => hz j h1 (by omega))
/-- what lies in the list of what is held -/
def HI (u : rg_U) (o : Nat) (H : Nat → Int32) (U D : Nat) : Prop := rF u o 3 = nI U ∧ rF u o 4 = nI D ∧ ∃ n f, rF u o 1 = nI n ∧ n ≤ 64 ∧ (∀ i, i < n → u.2.1 (o + 1) i = nI (f i * U)) ∧ HL f n (fun k => k ≤ 3000 ∧ ¬ H k = 0)
/-- what is held lies at times that can be -/
def HT (H : Nat → Int32) (U T : Nat) : Prop := ∀ k, k ≤ 3000 → ¬ H k = 0 → k * U ≤ T
section XH
variable {F o U D T : Nat} {H : Nat → Int32} {u : rg_U}
theorem HI_c {u' : rg_U} (h : HI u o H U D) (h1 : u'.1 (100 * o + 1) = u.1 (100 * o + 1)) (h3 : u'.1 (100 * o + 3) = u.1 (100 * o + 3)) (h4 : u'.1 (100 * o + 4) = u.1 (100 * o + 4)) (ha : u'.2.1 (o + 1) = u.2.1 (o + 1)) : HI u' o H U D := by
  unfold HI rF at *
  rw [h1, h3, h4, ha]
  exact h
theorem HI_H {H' : Nat → Int32} (h : HI u o H U D) (e : ∀ k, k ≤ 3000 → H' k = H k) : HI u o H' U D := by
  obtain ⟨h3, h4, n, f, h1, hn, ha, hl⟩ := h
  refine ⟨h3, h4, n, f, h1, hn, ha, hl.1, fun k => ?_⟩
  rw [← hl.2 k]
  constructor
  · rintro ⟨a, b⟩; rw [e k a] at b; exact ⟨a, b⟩
  · rintro ⟨a, b⟩; rw [← e k a] at b; exact ⟨a, b⟩
theorem x2_has_y {n i : Nat} (hn : rF u o 1 = nI n) (h64 : n ≤ 64) (hi : i < n) : g_X2_has F o (nI i) u = some 1 := by
  unfold g_X2_has
  rw [if_neg (nI_pos (by omega)), hn, if_neg (nI_ge hi (by omega)), if_neg (show ¬ (64 : Int32) ≤ nI i from nI_ge (a := i) (b := 64) (by omega) (by decide))]
theorem x2_time {n i : Nat} (hn : rF u o 1 = nI n) (h64 : n ≤ 64) (hi : i < n) : g_X2_timeOf F o (nI i) u = some (u.2.1 (o + 1) i) := by
  unfold g_X2_timeOf
  rw [x2_has_y hn h64 hi, ob_i, if_neg (by decide), ck_t (inb_nI (by omega) (by decide)), rA_nI (by omega)]
theorem c_latestBy {t : Nat} (h : HI u o H U D) (h0 : ¬ H 0 = 0) (hT : HT H U T) (hT3 : T ≤ 3000) (hU : 0 < U) (ht : t ≤ 3000) (hF : 10000 < F) : g_X2_latestBy F o (nI t) u = some (nI (hk H (t / U) * U)) := by
  obtain ⟨-, -, n, f, hn, h64, ha, hl⟩ := h
  have hf : ∀ i, i < n → f i * U ≤ 3000 := fun i hi => by
    obtain ⟨a, b⟩ := (hl.2 (f i)).mpr ⟨i, hi, rfl⟩
    have := hT _ a b
    omega
  obtain ⟨z, hz, ez⟩ := (hl.2 0).mp ⟨by omega, h0⟩
  have f0 : f 0 = 0 := by have := HL_le hl (Nat.zero_le z) hz; omega
  unfold g_X2_latestBy
  refine tt_eq (tt_b (tt_lp (I := fun s => ∃ i, i ≤ n ∧ s.2 = nI i ∧ s.1 = nI (if i = 0 then 0 else f (i - 1) * U) ∧ ∀ j, j < i → f j * U ≤ t) (m := fun s => (64 - s.2.toInt).toNat) (P := fun r => r = nI (hk H (t / U) * U)) ?_ F _ ?_ ?_) (fun _ q => q))
  · rintro ⟨a, b⟩ ⟨i, h1, h2, h3, h4⟩
    dsimp only at h2 h3 ⊢
    subst h2 h3
    unfold g_X2_latestBy_l4
    have fin : (i = n ∨ (i < n ∧ t < f i * U)) → nI (if i = 0 then 0 else f (i - 1) * U) = nI (hk H (t / U) * U) := by
      intro hx
      have hi : 0 < i := by
        rcases hx with e | ⟨e1, e2⟩
        · omega
        · rcases Nat.eq_zero_or_pos i with e | e
          · subst e; rw [f0] at e2; omega
          · exact e
      have hle : f (i - 1) ≤ t / U := (Nat.le_div_iff_mul_le hU).mpr (h4 (i - 1) (by omega))
      obtain ⟨b1, b2⟩ := (hl.2 (f (i - 1))).mpr ⟨i - 1, by omega, rfl⟩
      rw [if_neg (by omega), hk_is (t / U) hle (Or.inr b2) (fun j c1 c2 => Classical.byContradiction fun c3 => ?_)]
      have hj3 : j ≤ 3000 := by have := Nat.div_le_self t U; omega
      obtain ⟨a', ha', ea⟩ := (hl.2 j).mp ⟨hj3, c3⟩
      have hai : i ≤ a' := by
        rcases Nat.lt_or_ge a' i with y | y
        · have := HL_le hl (show a' ≤ i - 1 by omega) (by omega)
          omega
        · exact y
      rcases hx with e | ⟨e1, e2⟩
      · omega
      · have h5 := HL_le hl hai ha'
        have h6 : j * U ≤ t := (Nat.le_div_iff_mul_le hU).mp c2
        have h7 : f i * U ≤ j * U := Nat.mul_le_mul_right U (by omega)
        omega
    by_cases q : i = n
    · rw [hn, if_pos (by rw [q]; exact nI_le (Nat.le_refl _) (by omega))]
      exact tt_r (fin (Or.inl q))
    · rw [hn, if_neg (nI_ge (by omega) (by omega)), x2_time hn h64 (by omega), ob_i, ha i (by omega)]
      have := hf i (by omega)
      by_cases q2 : t < f i * U
      · rw [if_pos (nI_lt q2 (by omega))]
        exact tt_r (fin (Or.inr ⟨by omega, q2⟩))
      · rw [if_neg (nI_nlt (by omega) (by omega)), ob_i]
        refine tt_l ⟨⟨i + 1, by omega, nI_1 i, ?_, fun j hj => ?_⟩, ?_⟩
        · rw [if_neg (by omega), Nat.add_sub_cancel]
        · rcases Nat.lt_or_ge j i with y | y
          · exact h4 j y
          · rw [show j = i by omega]; omega
        · exact ms_u (C := 64) (by omega) (by omega)
  · exact ms_0 (C := 64) (by omega)
  · exact ⟨0, Nat.zero_le _, rfl, rfl, fun j hj => by omega⟩
/-- times above t go -/
theorem c_dropAbove {t : Nat} (h : HI u o H U D) (hT : HT H U T) (hT3 : T ≤ 3000) (hF : 10000 < F) (ht : t ≤ 3000) : ∃ w, g_X2_dropAbove F o (nI t) u = some w ∧ w.2 = u.2 ∧ (∀ k, k ≠ 100 * o + 1 → w.1 k = u.1 k) ∧ HI w o (fun k => if t < k * U then 0 else H k) U D := by
  obtain ⟨h3, h4, n, f, hn, h64, ha, hl⟩ := h
  have hf : ∀ i, i < n → f i * U ≤ 3000 := fun i hi => by
    obtain ⟨a, b⟩ := (hl.2 (f i)).mpr ⟨i, hi, rfl⟩
    have := hT _ a b
    omega
  have key : Tt (g_X2_dropAbove F o (nI t) u) (fun w => w.2 = u.2 ∧ (∀ k, k ≠ 100 * o + 1 → w.1 k = u.1 k) ∧ ∃ i, i ≤ n ∧ rF w o 1 = nI i ∧ (∀ j, j < i → f j * U ≤ t) ∧ ∀ j, i ≤ j → j < n → t < f j * U) := by
    unfold g_X2_dropAbove
    rw [hn]
    refine tt_b (tt_lp (I := fun s => s.2.2 = u.2 ∧ (∀ k, k ≠ 100 * o + 1 → s.2.1 k = u.1 k) ∧ ∃ i, i ≤ n ∧ s.1 = nI i - 1 ∧ rF s.2 o 1 = nI i ∧ ∀ j, i ≤ j → j < n → t < f j * U) (m := fun s => (s.1.toInt + 1).toNat) (P := fun w => w.2 = u.2 ∧ (∀ k, k ≠ 100 * o + 1 → w.1 k = u.1 k) ∧ ∃ i, i ≤ n ∧ rF w o 1 = nI i ∧ (∀ j, j < i → f j * U ≤ t) ∧ ∀ j, i ≤ j → j < n → t < f j * U) ?_ F _ ?_ ?_) (fun _ z => z)
    · rintro ⟨a, w⟩ ⟨h5, h6, i, h7, h8, h9, h10⟩
      dsimp only at h5 h6 h8 h9 ⊢
      unfold g_X2_dropAbove_l7
      cases i with
      | zero =>
        rw [if_pos (by rw [h8]; decide)]
        exact tt_r ⟨h5, h6, 0, h7, h9, fun j hj => by omega, h10⟩
      | succ i =>
        have e1 : a = nI i := by rw [h8]; exact nI_pred i
        subst e1
        have := hf i (by omega)
        rw [if_neg (nI_pos (by omega)), x2_time h9 (by omega) (by omega), ob_i, h5, ha i (by omega)]
        by_cases q : f i * U ≤ t
        · rw [if_pos (nI_le q (by omega))]
          refine tt_r ⟨h5, h6, i + 1, h7, h9, fun j hj => ?_, h10⟩
          exact Nat.le_trans (Nat.mul_le_mul_right U (HL_le hl (show j ≤ i by omega) (by omega))) q
        · rw [if_neg (nI_ge (by omega) (by omega)), lt1_i]
          refine tt_l ⟨⟨h5, fun k hk => by rw [sF_n hk]; exact h6 k hk, i, by omega, ?_, sF_y, fun j b1 b2 => ?_⟩, ?_⟩
          · dsimp only
            rw [Int32.sub_eq_add_neg]
          · rcases Nat.lt_or_ge i j with y | y
            · exact h10 j (by omega) b2
            · rw [show j = i by omega]; omega
          · exact ms_d1 (by omega)
    · exact ms_i (by omega) (by omega)
    · exact ⟨rfl, fun _ _ => rfl, n, Nat.le_refl _, rfl, hn, fun j b1 b2 => by omega⟩
  obtain ⟨w, e, w1, w2, i, hi, w3, w4, w5⟩ := key
  refine ⟨w, e, w1, w2, ?_, ?_, i, f, w3, by omega, fun j hj => by rw [w1]; exact ha j (by omega), fun a b h1 h2 => hl.1 a b h1 (by omega), fun k => ?_⟩
  · rw [← h3]; exact w2 _ (by omega)
  · rw [← h4]; exact w2 _ (by omega)
  · constructor
    · rintro ⟨b1, b2⟩
      dsimp only at b2
      by_cases q : t < k * U
      · rw [if_pos q] at b2; exact absurd rfl b2
      · rw [if_neg q] at b2
        obtain ⟨j, hj, ej⟩ := (hl.2 k).mp ⟨b1, b2⟩
        refine ⟨j, ?_, ej⟩
        rcases Nat.lt_or_ge j i with y | y
        · exact y
        · have := w5 j y hj
          rw [ej] at this
          exact absurd this q
    · rintro ⟨j, hj, ej⟩
      obtain ⟨b1, b2⟩ := (hl.2 k).mpr ⟨j, by omega, ej⟩
      refine ⟨b1, ?_⟩
      dsimp only
      rw [if_neg]
      · exact b2
      · have := w4 j hj
        rw [ej] at this
        omega
end XH
end W_59
section W_60
-- 97zt.hold
/-! the class's list of what is held: a time comes -/
section XC
variable {F o U D T : Nat} {H : Nat → Int32} {u : rg_U}
theorem x2_goes {n i k : Nat} (hn : rF u o 1 = nI n) (h64 : n ≤ 64) (hi : i < n) (h3 : rF u o 3 = nI U) (h4 : rF u o 4 = nI D) (ha : u.2.1 (o + 1) i = nI (k * U)) (hU : 0 < U) (hU2 : U ≤ 64) (hD : D ≤ 8) (hk : k * U ≤ 3000) : g_X2_goesAt F o (nI i) u = some (if k = 0 then -1 else nI (gw k D * U)) := by
  have hk3 : k ≤ 3000 := Nat.le_trans (Nat.le_mul_of_pos_right k hU) hk
  unfold g_X2_goesAt
  rw [x2_has_y hn h64 hi, ob_i, if_neg (by decide), ck_t (inb_nI (by omega) (by decide)), rA_nI (by omega), ha, h3, h4]
  by_cases q : k = 0
  · subst q
    rw [Nat.zero_mul, if_pos nI_0, if_pos rfl]
  · have hp : 0 < k * U := Nat.mul_pos (by omega) hU
    have hg := gw_le (k := k) (d := D) (by omega) hk3 hD
    rw [if_neg (nI_ne0 hp (by omega)), if_neg q, if_pos (show (1 : Int32) ≤ nI U from nI_le (a := 1) (by omega) (by omega)), ck_t (inb_nI (by omega) (by decide)), ck_t (nI_ne0 hU (by omega)), pk_div (by omega) hU (by omega), Nat.mul_div_cancel _ hU, c_goesWith (by omega) hk3 hD, pk_mul]
theorem c_dropGoes {t w : Nat} (h : HI u o H U D) (hT : HT H U T) (hT3 : T ≤ 3000) (hU : 0 < U) (hU2 : U ≤ 64) (hD : D ≤ 8) (ht : t = w * U) (ht3 : t ≤ 3000) (hF : 10000 < F) : ∃ v, g_X2_dropWhatGoesBy F o (nI t) u = some v ∧ v.2.2 = u.2.2 ∧ (∀ j, j ≠ o + 1 → v.2.1 j = u.2.1 j) ∧ (∀ k, k ≠ 100 * o + 1 → v.1 k = u.1 k) ∧ ∃ m g, rF v o 1 = nI m ∧ m ≤ 64 ∧ (∀ i, i < m → v.2.1 (o + 1) i = nI (g i * U)) ∧ HL g m (fun k => (k ≤ 3000 ∧ ¬ H k = 0) ∧ (k = 0 ∨ w < gw k D)) := by
  obtain ⟨h3, h4, n, f, hn, h64, ha, hl⟩ := h
  have hf : ∀ i, i < n → f i * U ≤ 3000 := fun i hi => by
    obtain ⟨a, b⟩ := (hl.2 (f i)).mpr ⟨i, hi, rfl⟩
    have := hT _ a b
    omega
  have hkeep : ∀ k, gw k D * U ≤ t ↔ gw k D ≤ w := fun k => by
    rw [ht]
    exact ⟨fun z => Nat.le_of_mul_le_mul_right z hU, fun z => Nat.mul_le_mul_right U z⟩
  have key : Tt (g_X2_dropWhatGoesBy F o (nI t) u) (fun v => v.2.2 = u.2.2 ∧ (∀ j, j ≠ o + 1 → v.2.1 j = u.2.1 j) ∧ (∀ k, k ≠ 100 * o + 1 → v.1 k = u.1 k) ∧ ∃ m g, rF v o 1 = nI m ∧ m ≤ 64 ∧ (∀ i, i < m → v.2.1 (o + 1) i = nI (g i * U)) ∧ HL g m (fun k => ∃ j, j < n ∧ f j = k ∧ (k = 0 ∨ w < gw k D))) := by
    unfold g_X2_dropWhatGoesBy
    refine tt_ob (tt_lp (I := fun s => ∃ (i m : Nat) (g : Nat → Nat), i ≤ n ∧ m ≤ i ∧ s.1 = nI m ∧ s.2.1 = nI i ∧ s.2.2.1 = u.1 ∧ s.2.2.2.2 = u.2.2 ∧ (∀ j, j ≠ o + 1 → s.2.2.2.1 j = u.2.1 j) ∧ (∀ a, a < m → s.2.2.2.1 (o + 1) a = nI (g a * U)) ∧ (∀ a, i ≤ a → s.2.2.2.1 (o + 1) a = u.2.1 (o + 1) a) ∧ HL g m (fun k => ∃ j, j < i ∧ f j = k ∧ (k = 0 ∨ w < gw k D))) (m := fun s => (64 - s.2.1.toInt).toNat) (P := fun r => ∃ (m : Nat) (g : Nat → Nat), m ≤ 64 ∧ r.1 = nI m ∧ r.2.1 = u.1 ∧ r.2.2.2 = u.2.2 ∧ (∀ j, j ≠ o + 1 → r.2.2.1 j = u.2.1 j) ∧ (∀ a, a < m → r.2.2.1 (o + 1) a = nI (g a * U)) ∧ HL g m (fun k => ∃ j, j < n ∧ f j = k ∧ (k = 0 ∨ w < gw k D))) ?_ F _ ?_ ?_) (fun r hr => ?_)
    · rintro ⟨a, b, v⟩ ⟨i, m, g, hi, hm, ea, eb, e1, e2, e3, e4, e5, e6⟩
      dsimp only at ea eb e1 e2 e3 e4 e5 e6 ⊢
      subst ea eb
      have e1' : ∀ s, rF v o s = rF u o s := fun s => by unfold rF; rw [e1]
      unfold g_X2_dropWhatGoesBy_l4
      rw [e1', hn]
      by_cases q : i = n
      · subst q
        rw [if_pos (nI_le (Nat.le_refl _) (by omega))]
        exact tt_r ⟨m, g, by omega, rfl, e1, e2, e3, e4, e6⟩
      · rw [if_neg (nI_ge (by omega) (by omega)), if_neg (show ¬ (64 : Int32) ≤ nI i from nI_ge (a := i) (b := 64) (by omega) (by decide)), x2_goes (k := f i) (by rw [e1', hn]) h64 (by omega) (by rw [e1', h3]) (by rw [e1', h4]) (by rw [e5 i (Nat.le_refl _), ha i (by omega)]) hU hU2 hD (hf i (by omega)), ob_i]
        have hfi := hf i (by omega)
        have hgl : f i = 0 ∨ gw (f i) D ≤ 27000 := by
          rcases Nat.eq_zero_or_pos (f i) with z | z
          · exact Or.inl z
          · exact Or.inr (gw_le z (Nat.le_trans (Nat.le_mul_of_pos_right _ hU) hfi) hD)
        have hms : (64 - (nI i + 1).toInt).toNat < (64 - (nI i).toInt).toNat := by
          exact ms_u (C := 64) (by omega) (by omega)
        have stay : (f i = 0 ∨ w < gw (f i) D) → Tt (g_X2_dropWhatGoesBy_j37 F o (nI t) (nI m) (nI i) v) (PS (fun s' : Int32 × Int32 × rg_U => (∃ (i m : Nat) (g : Nat → Nat), i ≤ n ∧ m ≤ i ∧ s'.1 = nI m ∧ s'.2.1 = nI i ∧ s'.2.2.1 = u.1 ∧ s'.2.2.2.2 = u.2.2 ∧ (∀ j, j ≠ o + 1 → s'.2.2.2.1 j = u.2.1 j) ∧ (∀ a, a < m → s'.2.2.2.1 (o + 1) a = nI (g a * U)) ∧ (∀ a, i ≤ a → s'.2.2.2.1 (o + 1) a = u.2.1 (o + 1) a) ∧ HL g m (fun k => ∃ j, j < i ∧ f j = k ∧ (k = 0 ∨ w < gw k D))) ∧ (64 - s'.2.1.toInt).toNat < (64 - (nI i).toInt).toNat) (fun r : Int32 × rg_U => ∃ (m : Nat) (g : Nat → Nat), m ≤ 64 ∧ r.1 = nI m ∧ r.2.1 = u.1 ∧ r.2.2.2 = u.2.2 ∧ (∀ j, j ≠ o + 1 → r.2.2.1 j = u.2.1 j) ∧ (∀ a, a < m → r.2.2.1 (o + 1) a = nI (g a * U)) ∧ HL g m (fun k => ∃ j, j < n ∧ f j = k ∧ (k = 0 ∨ w < gw k D)))) := by
          intro hst
          unfold g_X2_dropWhatGoesBy_j37 g_X2_dropWhatGoesBy_j52
          rw [ck_t (inb_nI (by omega) (by decide)), ck_t (inb_nI (by omega) (by decide)), lt1_i, rA_nI (by omega), sA_nI (by omega), e5 i (Nat.le_refl _), ha i (by omega)]
          refine tt_l ⟨⟨i + 1, m + 1, fun a => if a = m then f i else g a, by omega, by omega, nI_1 m, nI_1 i, e1, e2, fun j hj => ?_, fun a hA => ?_, fun a hA => ?_, fun a b hab hb => ?_, fun k => ?_⟩, hms⟩
          · show (rg_R v (o + 1) m _).2.1 j = _
            rw [R_n hj]; exact e3 j hj
          · show (rg_R v (o + 1) m _).2.1 (o + 1) a = _
            rw [R_s]
            by_cases z : a = m
            · subst z; rw [pk_us]; dsimp only; rw [if_pos rfl]
            · rw [pk_un z]; dsimp only; rw [if_neg z]; exact e4 a (by omega)
          · show (rg_R v (o + 1) m _).2.1 (o + 1) a = _
            rw [R_s, pk_un (by omega)]; exact e5 a (by omega)
          · dsimp only
            rw [if_neg (by omega)]
            by_cases z : b = m
            · rw [if_pos z]
              obtain ⟨j, hj, ej, -⟩ := (e6.2 (g a)).mpr ⟨a, by omega, rfl⟩
              rw [← ej]
              exact hl.1 j i hj (by omega)
            · rw [if_neg z]; exact e6.1 a b hab (by omega)
          · constructor
            · rintro ⟨j, hj, ej, hk⟩
              rcases Nat.lt_or_ge j i with y | y
              · obtain ⟨a, hA, ea⟩ := (e6.2 k).mp ⟨j, y, ej, hk⟩
                exact ⟨a, by omega, by dsimp only; rw [if_neg (by omega)]; exact ea⟩
              · exact ⟨m, by omega, by dsimp only; rw [if_pos rfl, show i = j by omega]; exact ej⟩
            · rintro ⟨a, hA, ea⟩
              dsimp only at ea
              by_cases z : a = m
              · rw [if_pos z] at ea
                exact ⟨i, by omega, ea, by rw [← ea]; exact hst⟩
              · rw [if_neg z] at ea
                obtain ⟨j, hj, r⟩ := (e6.2 k).mpr ⟨a, by omega, ea⟩
                exact ⟨j, by omega, r⟩
        by_cases z0 : f i = 0
        · rw [if_pos z0, if_pos rfl]
          exact stay (Or.inl z0)
        · have hg27 : gw (f i) D ≤ 27000 := by omega
          have hgU : gw (f i) D * U ≤ 27000 * 64 := Nat.mul_le_mul hg27 hU2
          rw [if_neg z0, if_neg (nI_m1 (by omega))]
          by_cases z1 : gw (f i) D ≤ w
          · rw [if_pos (nI_le ((hkeep _).mpr z1) (by omega))]
            unfold g_X2_dropWhatGoesBy_j52
            refine tt_l ⟨⟨i + 1, m, g, by omega, by omega, rfl, nI_1 i, e1, e2, e3, e4, fun a hA => e5 a (by omega), e6.1, fun k => ?_⟩, hms⟩
            rw [← e6.2 k]
            constructor
            · rintro ⟨j, hj, ej, hk⟩
              rcases Nat.lt_or_ge j i with y | y
              · exact ⟨j, y, ej, hk⟩
              · rw [show j = i by omega] at ej
                rw [← ej] at hk
                omega
            · rintro ⟨j, hj, r⟩
              exact ⟨j, by omega, r⟩
          · rw [if_neg (nI_ge (by have := mt (hkeep (f i)).mp z1; omega) (by omega))]
            exact stay (Or.inr (by omega))
    · exact ms_0 (C := 64) (by omega)
    · exact ⟨0, 0, fun _ => 0, Nat.zero_le _, Nat.le_refl _, rfl, rfl, rfl, rfl, fun _ _ => rfl, fun a hA => by omega, fun _ _ => rfl, fun a b _ hb => by omega, fun k => ⟨fun ⟨j, hj, _⟩ => by omega, fun ⟨j, hj, _⟩ => by omega⟩⟩
    · obtain ⟨m, g, r1, r2, r3, r4, r5, r6, r7⟩ := hr
      rw [lt1_i]
      refine tt_s ⟨r4, r5, fun k hk => ?_, m, g, ?_, r1, r6, r7⟩
      · rw [sF_n hk, r3]
      · rw [sF_y, r2]
  obtain ⟨v, e, v1, v2, v3, m, g, v4, v5, v6, v7⟩ := key
  refine ⟨v, e, v1, v2, v3, m, g, v4, v5, v6, v7.1, fun k => ?_⟩
  rw [← v7.2 k]
  constructor
  · rintro ⟨b1, b2⟩
    obtain ⟨j, hj, ej⟩ := (hl.2 k).mp b1
    exact ⟨j, hj, ej, b2⟩
  · rintro ⟨j, hj, ej, hk⟩
    exact ⟨(hl.2 k).mpr ⟨j, hj, ej⟩, hk⟩
theorem c_comesNo {t : Nat} (h : HI u o H U D) (hU : 0 < U) (hU2 : U ≤ 64) (ht : t ≤ 3000) (hm : ¬ t % U = 0) : g_X2_timeComes F o (nI t) u = some u := by
  have h3 := h.1
  unfold g_X2_timeComes
  rw [h3, if_neg (show ¬ nI U < 1 from nI_nlt (a := U) (b := 1) (by omega) (by omega)), ck_t (nI_ne0 hU (by omega)), show dx_rem (nI t) (nI U) = nI (t % U) from pk_rem (by omega) hU (by omega), if_neg (nI_ne0 (by omega) (by have := Nat.mod_lt t hU; omega))]
/-- a time comes that is held -/
theorem c_comesYes {t w : Nat} (h : HI u o H U D) (hT : HT H U T) (hTt : T < t) (hU : 0 < U) (hU2 : U ≤ 64) (hD1 : 0 < D) (hD : D ≤ 8) (ht : t = w * U) (ht3 : t ≤ 3000) (hc : cH (nH H D w) 3001 ≤ 64) (hF : 10000 < F) : ∃ v, g_X2_timeComes F o (nI t) u = some v ∧ v.2.2 = u.2.2 ∧ (∀ j, j ≠ o + 1 → v.2.1 j = u.2.1 j) ∧ (∀ k, k ≠ 100 * o + 1 → k ≠ 100 * o + 2 → v.1 k = u.1 k) ∧ HI v o (nH H D w) U D ∧ rF v o 2 = imax (rF u o 2) (nI (cH (nH H D w) 3001)) := by
  have h3 := h.1
  have hw : w ≤ 3000 := Nat.le_trans (Nat.le_mul_of_pos_right w hU) (by omega)
  have hlt : ∀ k, k ≤ 3000 → ¬ H k = 0 → k < w := fun k a b => by
    have := hT k a b
    rw [ht] at hTt
    exact Nat.lt_of_mul_lt_mul_right (Nat.lt_of_le_of_lt this hTt)
  obtain ⟨v, e, v1, v2, v3, m, g, v4, v5, v6, v7⟩ := c_dropGoes (F := F) h hT (by omega) hU hU2 hD ht ht3 hF
  have hl2 : HL (fun i => if i = m then w else g i) (m + 1) (fun k => k ≤ 3000 ∧ ¬ nH H D w k = 0) := by
    refine ⟨fun a b hab hb => ?_, fun k => ?_⟩
    · dsimp only
      rw [if_neg (by omega)]
      by_cases z : b = m
      · rw [if_pos z]
        obtain ⟨⟨c1, c2⟩, -⟩ := (v7.2 (g a)).mpr ⟨a, by omega, rfl⟩
        exact hlt _ c1 c2
      · rw [if_neg z]; exact v7.1 a b hab (by omega)
    · unfold nH
      constructor
      · rintro ⟨b1, b2⟩
        by_cases z : k = w
        · exact ⟨m, by omega, by dsimp only; rw [if_pos rfl, z]⟩
        · rw [if_neg z] at b2
          by_cases z2 : (1 ≤ k ∧ k < w) ∧ gw k D ≤ w
          · rw [if_pos z2] at b2; exact absurd rfl b2
          · rw [if_neg z2] at b2
            have := hlt k b1 b2
            obtain ⟨a, hA, ea⟩ := (v7.2 k).mp ⟨⟨b1, b2⟩, by omega⟩
            exact ⟨a, by omega, by dsimp only; rw [if_neg (by omega)]; exact ea⟩
      · rintro ⟨a, hA, ea⟩
        dsimp only at ea
        by_cases z : a = m
        · rw [if_pos z] at ea
          exact ⟨by omega, by rw [if_pos ea.symm]; decide⟩
        · rw [if_neg z] at ea
          obtain ⟨⟨b1, b2⟩, b3⟩ := (v7.2 k).mpr ⟨a, by omega, ea⟩
          have := hlt k b1 b2
          exact ⟨b1, by rw [if_neg (by omega), if_neg (by omega)]; exact b2⟩
  have hcn := HL_count hl2
  have hm : m < 64 := by omega
  have hrem : t % U = 0 := by rw [ht]; exact Nat.mul_mod_left w U
  unfold g_X2_timeComes g_X2_timeComes_j59
  rw [h3, if_neg (show ¬ nI U < 1 from nI_nlt (a := U) (b := 1) (by omega) (by omega)), ck_t (nI_ne0 hU (by omega)), show dx_rem (nI t) (nI U) = nI (t % U) from pk_rem (by omega) hU (by omega), hrem, if_pos nI_0, e, ob_i, v4, if_neg (nI_pos (by omega)), if_neg (show ¬ (64 : Int32) ≤ nI m from nI_ge (a := m) (b := 64) hm (by decide)), ck_t (inb_nI hm (by decide)), lt1_i, lt1_i, lt1_i, sA_nI (by omega)]
  have e4 : rF (rg_R v (o + 1) m (nI t)) o 1 = nI m := v4
  rw [e4, nI_1]
  refine ⟨_, rfl, v1, fun j hj => ?_, fun k k1 k2 => ?_, ⟨?_, ?_, m + 1, fun i => if i = m then w else g i, ?_, by omega, fun i hi => ?_, hl2⟩, ?_⟩
  · rw [sF_A, sF_A, R_n hj]; exact v2 j hj
  · rw [sF_n k2, sF_n k1]; exact v3 k k1
  · show (sF (sF (rg_R v (o + 1) m (nI t)) o 1 (nI (m + 1))) o 2 _).1 (100 * o + 3) = _
    rw [sF_n (by omega), sF_n (by omega)]
    exact (v3 _ (by omega)).trans h3
  · show (sF (sF (rg_R v (o + 1) m (nI t)) o 1 (nI (m + 1))) o 2 _).1 (100 * o + 4) = _
    rw [sF_n (by omega), sF_n (by omega)]
    exact (v3 _ (by omega)).trans h.2.1
  · show (sF (sF (rg_R v (o + 1) m (nI t)) o 1 (nI (m + 1))) o 2 _).1 (100 * o + 1) = _
    rw [sF_n (by omega)]
    exact sF_y
  · rw [sF_A, sF_A, R_s]
    by_cases z : i = m
    · subst z; rw [pk_us]; dsimp only; rw [if_pos rfl, ht]
    · rw [pk_un z]; dsimp only; rw [if_neg z]; exact v6 i (by omega)
  · rw [sF_y]
    have e1 : rF (sF (rg_R v (o + 1) m (nI t)) o 1 (nI (m + 1))) o 1 = nI (m + 1) := sF_y
    have e2 : rF (sF (rg_R v (o + 1) m (nI t)) o 1 (nI (m + 1))) o 2 = rF u o 2 := by
      show (sF (rg_R v (o + 1) m (nI t)) o 1 (nI (m + 1))).1 (100 * o + 2) = _
      rw [sF_n (by omega)]
      exact v3 _ (by omega)
    rw [e1, e2, hcn]
end XC
end W_60
section W_61
-- 97zu.mid
/-! the class: a run in the midst of a step -/
/-- the stack of time t: on top lies the call that began at s -/
def KI (Cn Tp : Nat → Int32) (R : Nat → Row) (t : Nat) : Prop := ∃ d, d ≤ 8 ∧ R t 121 = nI d ∧ (d = 0 → Tp t = -1) ∧ ∀ e, d = e + 1 → ∃ s, s < t ∧ Tp t = nI s ∧ R t (122 + e) = Cn s + 1 ∧ R s 121 = nI e ∧ ∀ i, i < e → R s (122 + i) = R t (122 + i)
def SI (u : rg_U) (o : Nat) (R : Nat → Row) (t : Nat) : Prop := u.2.1 (o + 30) t = R t 120 ∧ u.2.1 (o + 31) t = R t 130 ∧ u.2.1 (o + 32) t = R t 131 ∧ KI (u.2.1 (o + 30)) (u.2.1 (o + 33)) R t
/-- rows up to T, and m behind it -/
def Rx (R : Nat → Row) (T : Nat) (m : Row) : Nat → Row := fun t => if t ≤ T then R t else m
theorem Rx_le {R : Nat → Row} {T t : Nat} {m : Row} (h : t ≤ T) : Rx R T m t = R t := if_pos h
theorem Rx_gt {R : Nat → Row} {T t : Nat} {m : Row} (h : T < t) : Rx R T m t = m := if_neg (by omega)
theorem KI_c {Cn Tp Cn' Tp' : Nat → Int32} {R R' : Nat → Row} {t : Nat} (h : KI Cn Tp R t) (hC : ∀ s, s < t → Cn' s = Cn s) (hT : Tp' t = Tp t) (hR : ∀ s, s ≤ t → R' s = R s) : KI Cn' Tp' R' t := by
  obtain ⟨d, h1, h2, h3, h4⟩ := h
  refine ⟨d, h1, by rw [hR t (Nat.le_refl _)]; exact h2, by rw [hT]; exact h3, fun e he => ?_⟩
  obtain ⟨s, a1, a2, a3, a4, a5⟩ := h4 e he
  exact ⟨s, a1, by rw [hT]; exact a2, by rw [hR t (Nat.le_refl _), hC s a1]; exact a3, by rw [hR s (by omega)]; exact a4, fun i hi => by rw [hR s (by omega), hR t (Nat.le_refl _)]; exact a5 i hi⟩
theorem SI_c {u u' : rg_U} {o t : Nat} {R R' : Nat → Row} (h : SI u o R t) (h30 : ∀ s, s ≤ t → u'.2.1 (o + 30) s = u.2.1 (o + 30) s) (h31 : u'.2.1 (o + 31) t = u.2.1 (o + 31) t) (h32 : u'.2.1 (o + 32) t = u.2.1 (o + 32) t) (h33 : u'.2.1 (o + 33) t = u.2.1 (o + 33) t) (hR : ∀ s, s ≤ t → R' s = R s) : SI u' o R' t := by
  obtain ⟨h1, h2, h3, h4⟩ := h
  refine ⟨?_, ?_, ?_, KI_c h4 (fun s hs => h30 s (by omega)) h33 hR⟩
  · rw [h30 t (Nat.le_refl _), hR t (Nat.le_refl _)]; exact h1
  · rw [h31, hR t (Nat.le_refl _)]; exact h2
  · rw [h32, hR t (Nat.le_refl _)]; exact h3
/-- behind time T the row is m, as far as the step has come; l t is how much of the log lies ahead of t -/
def MD (u : rg_U) (o T N : Nat) (R : Nat → Row) (l : Nat → Nat) (m : Row) : Prop := rF u o 9 = nI T ∧ T < 3000 ∧ (∀ t, t ≤ T + 1 → SI u o (Rx R T m) t) ∧ PI u (o + 12) (T + 1) N ∧ PRow u (o + 12) N m ∧ ∀ t, t ≤ T → PRow u (o + 12) (cP (u.2.1 (o + 13)) t N) (R t) ∧ cP (u.2.1 (o + 13)) t N ≤ t + l t
/-- what a step changes of a run, but for its log and its calls -/
def FS (u v : rg_U) (o : Nat) : Prop := v.2.2 = u.2.2 ∧ (∀ j, (j < o + 12 ∨ (o + 23 < j ∧ j < o + 30) ∨ o + 33 < j) → v.2.1 j = u.2.1 j) ∧ ∀ k, (k < 100 * o + 10 ∨ (100 * o + 11 < k ∧ k ≠ 100 * (o + 12) + 11)) → v.1 k = u.1 k
theorem FS_r {u : rg_U} {o : Nat} : FS u u o := ⟨rfl, fun _ _ => rfl, fun _ _ => rfl⟩
theorem FS_t {u v w : rg_U} {o : Nat} (h : FS u v o) (h2 : FS v w o) : FS u w o := ⟨h2.1.trans h.1, fun j hj => (h2.2.1 j hj).trans (h.2.1 j hj), fun k hk => (h2.2.2 k hk).trans (h.2.2 k hk)⟩
section XM
variable {F o T N p : Nat} {R : Nat → Row} {l : Nat → Nat} {m : Row} {u : rg_U} {x s n a b : Int32}
theorem FS_R {j i : Nat} (h : FS u u o) (hj : o + 12 ≤ j ∧ (j ≤ o + 23 ∨ (o + 30 ≤ j ∧ j ≤ o + 33))) : FS u (rg_R u j i x) o := ⟨rfl, fun j' hj' => R_n (by omega), fun _ _ => rfl⟩
theorem FS_11 : FS u (sF u o 11 x) o := ⟨rfl, fun _ _ => rfl, fun k hk => sF_n (by omega)⟩
theorem FS_10 : FS u (sF u o 10 x) o := ⟨rfl, fun _ _ => rfl, fun k hk => sF_n (by omega)⟩
theorem FS_add {q : Nat} {ch old : Int32} (hq : q = o + 12) : FS u (addS u q N p x s n ch old) o := ⟨rfl, fun j hj => addS_n (by omega), fun k hk => addS_f (by omega)⟩
theorem addS_N {q : Nat} {ch old : Int32} : rF (addS u q N p x s n ch old) q 11 = nI (N + 1) := sF_y
theorem FS_rest {q : Nat} {c d : Int32} (hq : q = o + 12) : FS u (restS u q N a b c d) o := ⟨rfl, fun j hj => restS_n (by omega), fun _ _ => rfl⟩
/-- MD asks for the run's own puts and rows alone -/
theorem MD_c {v : rg_U} (h : MD u o T N R l m) (h9 : v.1 (100 * o + 9) = u.1 (100 * o + 9)) (h11 : v.1 (100 * (o + 12) + 11) = u.1 (100 * (o + 12) + 11)) (ha : ∀ j, o + 13 ≤ j → j ≤ o + 23 → (j ≤ o + 18 ∨ j = o + 23) → v.2.1 j = u.2.1 j) (hb : ∀ j, o + 30 ≤ j → j ≤ o + 33 → v.2.1 j = u.2.1 j) : MD v o T N R l m := by
  obtain ⟨h1, h2, h3, h4, h5, h6⟩ := h
  refine ⟨h9.trans h1, h2, fun t ht => ?_, PI_c h4 h11 (fun j a b => ha j (by omega) (by omega) (by omega)) (ha _ (by omega) (by omega) (by omega)), PRow_c h5 (fun j a b => ha j (by omega) (by omega) (by omega)), fun t ht => ?_⟩
  · exact SI_c (h3 t ht) (fun s _ => by rw [hb (o + 30) (by omega) (by omega)]) (by rw [hb (o + 31) (by omega) (by omega)]) (by rw [hb (o + 32) (by omega) (by omega)]) (by rw [hb (o + 33) (by omega) (by omega)]) (fun _ _ => rfl)
  · rw [ha (o + 13) (by omega) (by omega) (by omega)]
    exact ⟨PRow_c (h6 t ht).1 (fun j a b => ha j (by omega) (by omega) (by omega)), (h6 t ht).2⟩
/-- the row's places are told by the puts -/
theorem MD_lat (h : MD u o T N R l m) (hp : p < 40) : u.2.1 (o + 23) p = lat (u.2.1 (o + 14)) p N := h.2.2.2.1.2.2.2.2.1 p hp
theorem MD_N (h : MD u o T N R l m) : rF u (o + 12) 11 = nI N := h.2.2.2.1.1
theorem MD_8 (h : MD u o T N R l m) : N ≤ 3800 := h.2.2.2.1.2.1
theorem MD_latest (h : MD u o T N R l m) (hp : p < 40) : g_X6_latestOf F (o + 12) (nI p) u = some (lat (u.2.1 (o + 14)) p N) := by
  rw [x6_latest hp]
  exact congrArg some (MD_lat h hp)
theorem MD_sort (h : MD u o T N R l m) (hp : p < 40) : g_X6_sortOf F (o + 12) (lat (u.2.1 (o + 14)) p N) u = some (m p) := by
  rw [x6_sort (MD_N h) (MD_8 h) (lat_pt N), (h.2.2.2.2.1 p hp).1]
theorem MD_number (h : MD u o T N R l m) (hp : p < 40) : g_X6_numberOf F (o + 12) (lat (u.2.1 (o + 14)) p N) u = some (m (40 + p)) := by
  rw [x6_number (MD_N h) (MD_8 h) (lat_pt N), (h.2.2.2.2.1 p hp).2.1]
theorem MD_value (h : MD u o T N R l m) (hp : p < 40) : g_X6_hasValue F (o + 12) (lat (u.2.1 (o + 14)) p N) s n u = some (if m p = s ∧ m (40 + p) = n then 1 else 0) := by
  rw [x6_value (MD_N h) (MD_8 h) (lat_pt N), (h.2.2.2.2.1 p hp).1, (h.2.2.2.2.1 p hp).2.1]
/-- rows of places alone -/
theorem mput_h2 {k : Nat} (hp : p < 40) (hk : 120 ≤ k) : mput m p s n k = m k := by
  unfold mput
  rw [pk_un (by omega), pk_un (by omega), pk_un (by omega)]
theorem MD_row {m' : Row} (h : ∀ t, t ≤ T + 1 → SI u o (Rx R T m) t) (e : ∀ k, 120 ≤ k → k < 132 → m' k = m k) : ∀ t, t ≤ T + 1 → SI u o (Rx R T m') t := by
  intro t ht
  rcases Nat.lt_or_ge T t with y | y
  · obtain ⟨h1, h2, h3, d, k1, k2, k3, k4⟩ := h t ht
    rw [Rx_gt y] at h1 h2 h3
    unfold SI KI
    simp only [Rx_gt y] at k2 k4 ⊢
    refine ⟨by rw [e 120 (by omega) (by omega)]; exact h1, by rw [e 130 (by omega) (by omega)]; exact h2, by rw [e 131 (by omega) (by omega)]; exact h3, d, k1, by rw [e 121 (by omega) (by omega)]; exact k2, k3, fun f hf => ?_⟩
    obtain ⟨s, b1, b2, b3, b4, b5⟩ := k4 f hf
    have hs : s ≤ T := by omega
    simp only [Rx_le hs] at b4 b5
    exact ⟨s, b1, b2, by rw [e (122 + f) (by omega) (by omega)]; exact b3, by rw [Rx_le hs]; exact b4, fun i hi => by rw [Rx_le hs, e (122 + i) (by omega) (by omega)]; exact b5 i hi⟩
  · exact SI_c (h t ht) (fun _ _ => rfl) rfl rfl rfl (fun s hs => by rw [Rx_le (by omega), Rx_le (by omega)])
/-- what a put in a step makes -/
def putS (u : rg_U) (o T N p : Nat) (s n e a b : Int32) : rg_U := restS (addS u (o + 12) N p (nI (T + 1)) s n (vS (u.2.1 (o + 12 + 5)) 0 (u.2.1 (o + 12 + 11) p) + (if sameV u (o + 12) (u.2.1 (o + 12 + 11) p) s n then 0 else 1)) (u.2.1 (o + 12 + 11) p)) (o + 12) N (nI T) e a b
theorem FS_put {e : Int32} : FS u (putS u o T N p s n e a b) o := FS_t (FS_add rfl) (FS_rest rfl)
theorem putS_9 {e : Int32} : rF (putS u o T N p s n e a b) o 9 = rF u o 9 := by
  show (addS u (o + 12) N p _ s n _ _).1 (100 * o + 9) = _
  rw [addS_f (by omega)]
  rfl
theorem MD_put {e : Int32} (h : MD u o T N R l m) (h8 : N < 3800) (hp : p < 40) : MD (putS u o T N p s n e a b) o T (N + 1) R l (mput m p s n) := by
  obtain ⟨h1, h2, h3, h4, h5, h6⟩ := id h
  have hN31 : N < 2 ^ 31 := by omega
  have hPI := PI_add (s := s) (n := n) h4 h8 hp (Nat.le_refl _) (by omega)
  have hadd : MD (addS u (o + 12) N p (nI (T + 1)) s n (vS (u.2.1 (o + 12 + 5)) 0 (u.2.1 (o + 12 + 11) p) + (if sameV u (o + 12) (u.2.1 (o + 12 + 11) p) s n then 0 else 1)) (u.2.1 (o + 12 + 11) p)) o T (N + 1) R l (mput m p s n) := by
    refine ⟨?_, h2, MD_row (m := m) (fun t ht => SI_c (h3 t ht) (fun s' _ => by rw [addS_n (by omega)]) (by rw [addS_n (by omega)]) (by rw [addS_n (by omega)]) (by rw [addS_n (by omega)]) (fun _ _ => rfl)) (fun k k1 k2 => mput_h2 hp k1), hPI, PRow_new (h4.2.2.2.2.1 p hp) h5 hN31 hp, fun t ht => ?_⟩
    · show (addS u (o + 12) N p _ s n _ _).1 (100 * o + 9) = _
      rw [addS_f (by omega)]
      exact h1
    · have ec := cP_add (u := u) (q := o + 12) (N := N) (p := p) (s := s) (n := n) (ch := (vS (u.2.1 (o + 12 + 5)) 0 (u.2.1 (o + 12 + 11) p) + (if sameV u (o + 12) (u.2.1 (o + 12 + 11) p) s n then 0 else 1))) (old := u.2.1 (o + 12 + 11) p) (t := T + 1) (k := t) (by omega) (by omega)
      rw [show o + 13 = o + 12 + 1 from rfl, ec]
      exact ⟨PRow_add (h6 t ht).1 (cP_le N) hN31, (h6 t ht).2⟩
  refine MD_c hadd (congrFun restS_f _) (congrFun restS_f _) (fun j j1 j2 j3 => ?_) (fun j j1 j2 => ?_)
  · exact restS_n (by omega)
  · exact restS_n (by omega)
/-- whether the value became another one, by the row -/
theorem MD_same (h : MD u o T N R l m) (hp : p < 40) : sameV u (o + 12) (u.2.1 (o + 12 + 11) p) s n ↔ m p = s ∧ m (40 + p) = n := by
  have e : u.2.1 (o + 12 + 11) p = lat (u.2.1 (o + 12 + 2)) p N := MD_lat h hp
  unfold sameV
  rw [e, (h.2.2.2.2.1 p hp).1, (h.2.2.2.2.1 p hp).2.1]
theorem c_put (h : MD u o T N R l m) (h8 : N < 3800) (hp : p < 40) : g_X7_putByStep F o (nI p) s n a b u = some (sF (putS u o T N p s n (-1) a b) o 11 (if m p = s ∧ m (40 + p) = n then -1 else nI p)) := by
  have hl : isPt N (u.2.1 (o + 12 + 11) p) := by
    rw [show u.2.1 (o + 12 + 11) p = lat (u.2.1 (o + 14)) p N from MD_lat h hp]
    exact lat_pt N
  unfold g_X7_putByStep
  rw [h.1, nI_1, c_add6 (MD_N h) h8 hp hl, ob_i]
  dsimp only
  have e9 : rF (addS u (o + 12) N p (nI (T + 1)) s n (vS (u.2.1 (o + 12 + 5)) 0 (u.2.1 (o + 12 + 11) p) + (if sameV u (o + 12) (u.2.1 (o + 12 + 11) p) s n then 0 else 1)) (u.2.1 (o + 12 + 11) p)) o 9 = nI T := by
    show (addS u (o + 12) N p _ s n _ _).1 (100 * o + 9) = _
    rw [addS_f (by omega)]
    exact h.1
  rw [e9, c_rest addS_N h8, ob_i]
  have hs := MD_same (s := s) (n := n) h hp
  by_cases q : m p = s ∧ m (40 + p) = n
  · rw [if_pos (show (if sameV u (o + 12) (u.2.1 (o + 12 + 11) p) s n then (0 : Int32) else 1) = 0 from if_pos (hs.mpr q)), lt1_i, if_pos q]
    rfl
  · rw [if_neg (show ¬ (if sameV u (o + 12) (u.2.1 (o + 12 + 11) p) s n then (0 : Int32) else 1) = 0 by rw [if_neg (fun z => q (hs.mp z))]; decide), lt1_i, if_neg q]
    rfl
end XM
end W_61
section W_62
-- 97zv.stack
/-! the class: the stack, and what a step writes -/
section XK
variable {F o T N p M : Nat} {R : Nat → Row} {l : Nat → Nat} {m : Row} {u : rg_U} {x s n a b : Int32}
theorem x7_hasT {t : Nat} (h9 : rF u o 9 = nI M) (hM : M ≤ 3000) (ht : t ≤ M) : g_X7_hasTime F o (nI t) u = some 1 := by
  unfold g_X7_hasTime
  rw [if_neg (nI_pos (by omega)), h9, if_neg (nI_nlt ht (by omega)), if_neg (show ¬ (3000 : Int32) < nI t from nI_nlt (a := 3000) (b := t) (by omega) (by decide))]
theorem x7_no : g_X7_hasTime F o (-1) u = some 0 := by
  unfold g_X7_hasTime
  rw [if_pos (by decide)]
theorem x7_counter {t : Nat} (h9 : rF u o 9 = nI M) (hM : M ≤ 3000) (ht : t ≤ M) : g_X7_counterAt F o (nI t) u = some (u.2.1 (o + 30) t) := by
  unfold g_X7_counterAt
  rw [x7_hasT h9 hM ht, ob_i, if_neg (by decide), ck_t (inb_nI (by omega) (by decide)), rA_nI (by omega)]
theorem x7_outs {t : Nat} (h9 : rF u o 9 = nI M) (hM : M ≤ 3000) (ht : t ≤ M) : g_X7_outsAt F o (nI t) u = some (u.2.1 (o + 31) t) := by
  unfold g_X7_outsAt
  rw [x7_hasT h9 hM ht, ob_i, if_neg (by decide), ck_t (inb_nI (by omega) (by decide)), rA_nI (by omega)]
theorem x7_check {t : Nat} (h9 : rF u o 9 = nI M) (hM : M ≤ 3000) (ht : t ≤ M) : g_X7_checkAt F o (nI t) u = some (u.2.1 (o + 32) t) := by
  unfold g_X7_checkAt
  rw [x7_hasT h9 hM ht, ob_i, if_neg (by decide), ck_t (inb_nI (by omega) (by decide)), rA_nI (by omega)]
theorem x7_top {t : Nat} (h9 : rF u o 9 = nI M) (hM : M ≤ 3000) (ht : t ≤ M) : g_X7_topAt F o (nI t) u = some (u.2.1 (o + 33) t) := by
  unfold g_X7_topAt
  rw [x7_hasT h9 hM ht, ob_i, if_neg (by decide), ck_t (inb_nI (by omega) (by decide)), rA_nI (by omega)]
theorem c_stackSize {t : Nat} (h9 : rF u o 9 = nI M) (hM : M ≤ 3000) (ht : t ≤ M) (hS : ∀ s, s ≤ t → SI u o R s) (hF : 10000 < F) : g_X7_stackSizeAt F o (nI t) u = some (R t 121) := by
  obtain ⟨d, d8, ed, -, -⟩ := (hS t (Nat.le_refl _)).2.2.2
  unfold g_X7_stackSizeAt
  rw [x7_top h9 hM ht, ob_i, ed]
  refine tt_eq (tt_b (tt_lp (I := fun z => ∃ s e, s ≤ t ∧ e ≤ d ∧ z.2 = u.2.1 (o + 33) s ∧ R s 121 = nI e ∧ z.1 = nI (d - e)) (m := fun z => (8 - z.1.toInt).toNat) (P := fun r => r = nI d) ?_ F _ ?_ ?_) (fun _ q => q))
  · rintro ⟨y, w⟩ ⟨s, e, h1, h2, h3, h4, h5⟩
    dsimp only at h3 h5 ⊢
    subst h3 h5
    unfold g_X7_stackSizeAt_l8
    obtain ⟨d', k1, k2, k3, k4⟩ := (hS s h1).2.2.2
    have e1 : d' = e := nI_inj (by omega) (by omega) (k2.symm.trans h4)
    subst e1
    cases d' with
    | zero =>
      rw [if_pos (k3 rfl)]
      exact tt_r (by rw [Nat.sub_zero])
    | succ e' =>
      obtain ⟨s', b1, b2, b3, b4, b5⟩ := k4 e' rfl
      rw [b2, if_neg (nI_m1 (by omega)), if_neg (show ¬ (8 : Int32) ≤ nI (d - (e' + 1)) from nI_ge (a := d - (e' + 1)) (b := 8) (by omega) (by decide)), x7_top h9 hM (by omega), ob_i]
      refine tt_l ⟨⟨s', e', by omega, by omega, rfl, b4, ?_⟩, ?_⟩
      · show nI (d - (e' + 1)) + 1 = nI (d - e')
        rw [nI_1, show d - (e' + 1) + 1 = d - e' by omega]
      · exact ms_u (C := 8) (by omega) (by omega)
  · exact ms_0 (C := 8) (by omega)
  · exact ⟨t, d, Nat.le_refl _, Nat.le_refl _, rfl, ed, by rw [Nat.sub_self]; rfl⟩
theorem c_stackedAt {t d : Nat} (h9 : rF u o 9 = nI M) (hM : M ≤ 3000) (ht : t ≤ M) (hS : ∀ s, s ≤ t → SI u o R s) (hd : R t 121 = nI d) (d8 : d ≤ 8) (hF : 10000 < F) : g_X7_stackedAt F o (nI t) x u = some (if x < 0 ∨ nI d ≤ x then -1000001 else R t (122 + tn x)) := by
  unfold g_X7_stackedAt
  rw [c_stackSize h9 hM ht hS hF, ob_i, hd]
  by_cases q0 : x < 0
  · rw [if_pos q0, if_pos (Or.inl q0)]
  rw [if_neg q0]
  obtain ⟨k, hk31, rfl⟩ := nI_of q0
  by_cases q1 : k < d
  · rw [if_pos (nI_lt q1 (by omega)), if_neg (fun z => by rcases z with z | z; exact q0 z; exact nI_ge q1 (by omega) z), x7_top h9 hM ht, ob_i, tnn hk31]
    have key : Tt (lp (fun (z : (Int32 × Int32)) => g_X7_stackedAt_l30 F o (nI k) u z.1 z.2) F (u.2.1 (o + 33) t, nI d - 1)) (fun r => ∃ s, s < t ∧ r = nI s ∧ u.2.1 (o + 30) s + 1 = R t (122 + k)) := by
      refine tt_lp (I := fun z => ∃ s e, s ≤ t ∧ k < e ∧ e ≤ d ∧ z.1 = u.2.1 (o + 33) s ∧ R s 121 = nI e ∧ z.2 = nI e - 1 ∧ ∀ i, i < e → R s (122 + i) = R t (122 + i)) (m := fun z => (z.2.toInt + 1).toNat) ?_ F _ ?_ ?_
      · rintro ⟨y, w⟩ ⟨s, e, h1, h2, h3, h4, h5, h6, h7⟩
        dsimp only at h4 h6 ⊢
        subst h4 h6
        unfold g_X7_stackedAt_l30
        obtain ⟨d', k1, k2, k3, k4⟩ := (hS s h1).2.2.2
        have e1 : d' = e := nI_inj (by omega) (by omega) (k2.symm.trans h5)
        subst e1
        cases d' with
        | zero => omega
        | succ e' =>
          obtain ⟨s', b1, b2, b3, b4, b5⟩ := k4 e' rfl
          rw [nI_pred]
          by_cases z : e' = k
          · rw [z, if_pos (nI_le (Nat.le_refl _) hk31)]
            subst z
            exact tt_r ⟨s', by omega, b2, by rw [← b3]; exact h7 e' (by omega)⟩
          · rw [if_neg (nI_ge (by omega) (by omega)), b2, x7_top h9 hM (by omega), ob_i]
            refine tt_l ⟨⟨s', e', by omega, by omega, by omega, rfl, b4, ?_, fun i hi => (b5 i hi).trans (h7 i (by omega))⟩, ?_⟩
            · dsimp only
              rw [Int32.sub_eq_add_neg]
            · exact ms_d1 (by omega)
      · exact ms_i (by omega) (by omega)
      · exact ⟨t, d, Nat.le_refl _, q1, Nat.le_refl _, rfl, hd, rfl, fun _ _ => rfl⟩
    obtain ⟨r, e, s, hs, er, ev⟩ := key
    rw [e, ob_i, er, x7_counter h9 hM (by omega), ob_i, ev]
  · rw [if_neg (nI_nlt (by omega) (by omega)), if_pos (Or.inr (nI_le (by omega) (by omega)))]
/-! what a step writes of its own time -/
theorem SI_30 (hS : ∀ t, t ≤ T + 1 → SI u o (Rx R T m) t) : ∀ t, t ≤ T + 1 → SI (rg_R u (o + 30) (T + 1) x) o (Rx R T (upd m 120 x)) t := by
  intro t ht
  rcases Nat.lt_or_ge T t with y | y
  · have et : t = T + 1 := by omega
    subst et
    obtain ⟨h1, h2, h3, h4⟩ := hS (T + 1) ht
    rw [Rx_gt y] at h1 h2 h3
    obtain ⟨d, k1, k2, k3, k4⟩ := h4
    unfold SI KI
    simp only [Rx_gt y] at k2 k4 ⊢
    rw [R_s, pk_us, pk_us, R_n (by omega), R_n (by omega), R_n (by omega), pk_un (by decide), pk_un (by decide), pk_un (by decide)]
    refine ⟨rfl, h2, h3, d, k1, k2, k3, fun f hf => ?_⟩
    obtain ⟨s, b1, b2, b3, b4, b5⟩ := k4 f hf
    have hs : s ≤ T := by omega
    simp only [Rx_le hs] at b4 b5
    exact ⟨s, b1, b2, by rw [pk_un (by omega), pk_un (by omega)]; exact b3, by rw [Rx_le hs]; exact b4, fun i hi => by rw [Rx_le hs, pk_un (by omega)]; exact b5 i hi⟩
  · exact SI_c (hS t ht) (fun s hs => by rw [R_s, pk_un (by omega)]) (by rw [R_n (by omega)]) (by rw [R_n (by omega)]) (by rw [R_n (by omega)]) (fun s hs => by rw [Rx_le (by omega), Rx_le (by omega)])
theorem PRow_hi {q k i : Nat} (h : PRow u q k m) (hi : 120 ≤ i) : PRow u q k (upd m i x) := fun p hp => by
  rw [pk_un (by omega), pk_un (by omega), pk_un (by omega)]
  exact h p hp
theorem MD_goOn (h : MD u o T N R l m) : MD (rg_R u (o + 30) (T + 1) x) o T N R l (upd m 120 x) := by
  obtain ⟨h1, h2, h3, h4, h5, h6⟩ := h
  refine ⟨h1, h2, SI_30 h3, PI_c h4 rfl (fun j a b => R_n (by omega)) (R_n (by omega)), PRow_hi (PRow_c h5 (fun j a b => R_n (by omega))) (by omega), fun t ht => ?_⟩
  rw [R_n (by omega)]
  exact ⟨PRow_c (h6 t ht).1 (fun j a b => R_n (by omega)), (h6 t ht).2⟩
theorem c_goOnAt (h9 : rF u o 9 = nI T) (hT : T < 3000) : g_X7_goOnAt F o x u = some (rg_R u (o + 30) (T + 1) x) := by
  unfold g_X7_goOnAt
  rw [h9, if_neg (nI_pos (by omega)), if_neg (show ¬ (3000 : Int32) ≤ nI T from nI_ge (a := T) (b := 3000) hT (by decide)), nI_1, ck_t (inb_nI (by omega) (by decide)), lt1_i, sA_nI (by omega)]
theorem MD_hi (h : MD u o T N R l m) (x : Int32) : MD u o T N R l (upd m 132 x) := by
  obtain ⟨h1, h2, h3, h4, h5, h6⟩ := h
  exact ⟨h1, h2, MD_row h3 (fun k k1 k2 => pk_un (by omega)), h4, PRow_hi h5 (by omega), h6⟩
theorem MD_133 (h : MD u o T N R l m) (x : Int32) : MD u o T N R l (upd m 133 x) := by
  obtain ⟨h1, h2, h3, h4, h5, h6⟩ := h
  exact ⟨h1, h2, MD_row h3 (fun k k1 k2 => pk_un (by omega)), h4, PRow_hi h5 (by omega), h6⟩
/-- put out -/
theorem SI_out (hS : ∀ t, t ≤ T + 1 → SI u o (Rx R T m) t) : ∀ t, t ≤ T + 1 → SI (rg_R (rg_R u (o + 31) (T + 1) x) (o + 32) (T + 1) s) o (Rx R T (upd (upd m 130 x) 131 s)) t := by
  intro t ht
  rcases Nat.lt_or_ge T t with y | y
  · have et : t = T + 1 := by omega
    subst et
    obtain ⟨h1, h2, h3, h4⟩ := hS (T + 1) ht
    rw [Rx_gt y] at h1 h2 h3
    obtain ⟨d, k1, k2, k3, k4⟩ := h4
    unfold SI KI
    simp only [Rx_gt y] at k2 k4 ⊢
    rw [R_n (show o + 30 ≠ o + 32 by omega), R_n (show o + 30 ≠ o + 31 by omega), R_n (show o + 31 ≠ o + 32 by omega), R_s, R_s, R_n (show o + 33 ≠ o + 32 by omega), R_n (show o + 33 ≠ o + 31 by omega), pk_us, pk_us, pk_us, pk_un (show 120 ≠ 131 by decide), pk_un (show 120 ≠ 130 by decide), pk_un (show 130 ≠ 131 by decide), pk_us, pk_un (show 121 ≠ 131 by decide), pk_un (show 121 ≠ 130 by decide)]
    refine ⟨h1, rfl, rfl, d, k1, k2, k3, fun f hf => ?_⟩
    obtain ⟨s', b1, b2, b3, b4, b5⟩ := k4 f hf
    have hs : s' ≤ T := by omega
    simp only [Rx_le hs] at b4 b5
    exact ⟨s', b1, b2, by rw [pk_un (by omega), pk_un (by omega)]; exact b3, by rw [Rx_le hs]; exact b4, fun i hi => by rw [Rx_le hs, pk_un (by omega), pk_un (by omega)]; exact b5 i hi⟩
  · exact SI_c (hS t ht) (fun s hs => by rw [R_n (by omega), R_n (by omega)]) (by rw [R_n (by omega), R_s, pk_un (by omega)]) (by rw [R_s, pk_un (by omega), R_n (by omega)]) (by rw [R_n (by omega), R_n (by omega)]) (fun s hs => by rw [Rx_le (by omega), Rx_le (by omega)])
theorem MD_out (h : MD u o T N R l m) : MD (rg_R (rg_R u (o + 31) (T + 1) x) (o + 32) (T + 1) s) o T N R l (upd (upd m 130 x) 131 s) := by
  obtain ⟨h1, h2, h3, h4, h5, h6⟩ := h
  have e : ∀ j, (j < o + 31 ∨ o + 32 < j) → (rg_R (rg_R u (o + 31) (T + 1) x) (o + 32) (T + 1) s).2.1 j = u.2.1 j := fun j hj => by rw [R_n (by omega), R_n (by omega)]
  refine ⟨h1, h2, SI_out h3, PI_c h4 rfl (fun j a b => e j (by omega)) (e _ (by omega)), PRow_hi (PRow_hi (PRow_c h5 (fun j a b => e j (by omega))) (by omega)) (by omega), fun t ht => ?_⟩
  rw [e _ (by omega)]
  exact ⟨PRow_c (h6 t ht).1 (fun j a b => e j (by omega)), (h6 t ht).2⟩
theorem c_addOut (h : MD u o T N R l m) (h131 : m 131 = R T 131) : g_X7_addOut F o x n u = some (rg_R (rg_R u (o + 31) (T + 1) (m 130 + 1)) (o + 32) (T + 1) (31 * m 131 + 3 * n + x)) := by
  obtain ⟨h1, h2, h3, -, -, -⟩ := h
  have e1 : u.2.1 (o + 31) (T + 1) = m 130 := by rw [(h3 (T + 1) (Nat.le_refl _)).2.1, Rx_gt (by omega)]
  have e2 : u.2.1 (o + 32) T = R T 131 := by rw [(h3 T (by omega)).2.2.1, Rx_le (Nat.le_refl _)]
  have hi : inb (nI (T + 1)) 3001 := inb_nI (by omega) (by decide)
  unfold g_X7_addOut
  rw [h1, if_neg (nI_pos (by omega)), if_neg (show ¬ (3000 : Int32) ≤ nI T from nI_ge (a := T) (b := 3000) h2 (by decide)), nI_1, ck_t hi, ck_t hi, lt1_i, rA_nI (by omega), e1, sA_nI (by omega)]
  have e9 : rF (rg_R u (o + 31) (T + 1) (m 130 + 1)) o 9 = nI T := h1
  rw [e9, nI_1, ck_t (inb_nI (by omega) (by decide)), ck_t hi, lt1_i, rA_nI (by omega), R_n (by omega), e2, sA_nI (by omega), h131]
/-- a call comes on the stack -/
theorem SI_up {d : Nat} (hS : ∀ t, t ≤ T + 1 → SI u o (Rx R T m) t) (hd : R T 121 = nI d) (d8 : d < 8) (h120 : m 120 = R T 120 + 1) (hst : ∀ i, i < d → m (122 + i) = R T (122 + i)) : ∀ t, t ≤ T + 1 → SI (rg_R u (o + 33) (T + 1) (nI T)) o (Rx R T (upd (upd m (122 + d) (m 120)) 121 (nI (d + 1)))) t := by
  intro t ht
  rcases Nat.lt_or_ge T t with y | y
  · have et : t = T + 1 := by omega
    subst et
    obtain ⟨h1, h2, h3, h4⟩ := hS (T + 1) ht
    rw [Rx_gt y] at h1 h2 h3
    unfold SI KI
    simp only [Rx_gt y]
    rw [R_n (show o + 30 ≠ o + 33 by omega), R_n (show o + 31 ≠ o + 33 by omega), R_n (show o + 32 ≠ o + 33 by omega), R_s, pk_us, pk_us, pk_un (show 120 ≠ 121 by decide), pk_un (show 120 ≠ 122 + d by omega), pk_un (show 130 ≠ 121 by decide), pk_un (show 130 ≠ 122 + d by omega), pk_un (show 131 ≠ 121 by decide), pk_un (show 131 ≠ 122 + d by omega)]
    refine ⟨h1, h2, h3, d + 1, by omega, rfl, fun z => by omega, fun f hf => ?_⟩
    have ef : f = d := by omega
    subst ef
    refine ⟨T, by omega, rfl, ?_, by rw [Rx_le (Nat.le_refl _)]; exact hd, fun i hi => ?_⟩
    · rw [pk_un (by omega), pk_us, h120]
      have := (hS T (by omega)).1
      rw [Rx_le (Nat.le_refl _)] at this
      rw [this]
    · rw [Rx_le (Nat.le_refl _), pk_un (by omega), pk_un (by omega)]
      exact (hst i hi).symm
  · exact SI_c (hS t ht) (fun s hs => by rw [R_n (by omega)]) (by rw [R_n (by omega)]) (by rw [R_n (by omega)]) (by rw [R_s, pk_un (by omega)]) (fun s hs => by rw [Rx_le (by omega), Rx_le (by omega)])
theorem MD_33 {m' : Row} {y : Int32} (h : MD u o T N R l m) (hS : ∀ t, t ≤ T + 1 → SI (rg_R u (o + 33) (T + 1) y) o (Rx R T m') t) (hp : ∀ p, p < 120 → m' p = m p) : MD (rg_R u (o + 33) (T + 1) y) o T N R l m' := by
  obtain ⟨h1, h2, h3, h4, h5, h6⟩ := h
  refine ⟨h1, h2, hS, PI_c h4 rfl (fun j a b => R_n (by omega)) (R_n (by omega)), fun p hp' => ?_, fun t ht => ?_⟩
  · rw [hp p (by omega), hp (40 + p) (by omega), hp (80 + p) (by omega)]
    exact PRow_c h5 (fun j a b => R_n (by omega)) p hp'
  · rw [R_n (by omega)]
    exact ⟨PRow_c (h6 t ht).1 (fun j a b => R_n (by omega)), (h6 t ht).2⟩
theorem c_stackUp (h9 : rF u o 9 = nI T) (hT : T < 3000) : g_X7_stackUp F o u = some (rg_R u (o + 33) (T + 1) (nI T)) := by
  unfold g_X7_stackUp
  rw [h9, if_neg (nI_pos (by omega)), if_neg (show ¬ (3000 : Int32) ≤ nI T from nI_ge (a := T) (b := 3000) hT (by decide)), nI_1, ck_t (inb_nI (by omega) (by decide)), lt1_i, sA_nI (by omega)]
/-- a call goes from the stack -/
theorem SI_down {d s : Nat} (hS : ∀ t, t ≤ T + 1 → SI u o (Rx R T m) t) (hs : s < T) (d8 : d < 8) (hd : R s 121 = nI d) (hst : ∀ i, i < d → R s (122 + i) = m (122 + i)) : ∀ t, t ≤ T + 1 → SI (rg_R u (o + 33) (T + 1) (u.2.1 (o + 33) s)) o (Rx R T (upd m 121 (nI d))) t := by
  intro t ht
  rcases Nat.lt_or_ge T t with y | y
  · have et : t = T + 1 := by omega
    subst et
    obtain ⟨h1, h2, h3, h4⟩ := hS (T + 1) ht
    rw [Rx_gt y] at h1 h2 h3
    obtain ⟨d', k1, k2, k3, k4⟩ := (hS s (by omega)).2.2.2
    rw [Rx_le (by omega)] at k2
    have e1 : d' = d := nI_inj (by omega) (by omega) (k2.symm.trans hd)
    subst e1
    unfold SI KI
    simp only [Rx_gt y]
    rw [R_n (show o + 30 ≠ o + 33 by omega), R_n (show o + 31 ≠ o + 33 by omega), R_n (show o + 32 ≠ o + 33 by omega), R_s, pk_us, pk_us, pk_un (show 120 ≠ 121 by decide), pk_un (show 130 ≠ 121 by decide), pk_un (show 131 ≠ 121 by decide)]
    refine ⟨h1, h2, h3, d', by omega, rfl, k3, fun f hf => ?_⟩
    obtain ⟨s', b1, b2, b3, b4, b5⟩ := k4 f hf
    have hs' : s' ≤ T := by omega
    rw [Rx_le (show s ≤ T by omega)] at b3
    rw [Rx_le hs'] at b4
    refine ⟨s', by omega, b2, ?_, by rw [Rx_le hs']; exact b4, fun i hi => ?_⟩
    · rw [pk_un (by omega), ← hst f (by omega)]; exact b3
    · have := b5 i hi
      rw [Rx_le hs', Rx_le (by omega)] at this
      rw [Rx_le hs', pk_un (by omega), ← hst i (by omega)]
      exact this
  · exact SI_c (hS t ht) (fun s hs => by rw [R_n (by omega)]) (by rw [R_n (by omega)]) (by rw [R_n (by omega)]) (by rw [R_s, pk_un (by omega)]) (fun s hs => by rw [Rx_le (by omega), Rx_le (by omega)])
theorem c_stackDown {s : Nat} (h9 : rF u o 9 = nI T) (hT : T < 3000) (hs : s < T) (e : u.2.1 (o + 33) T = nI s) : g_X7_stackDown F o u = some (rg_R u (o + 33) (T + 1) (u.2.1 (o + 33) s)) := by
  unfold g_X7_stackDown
  rw [h9, if_neg (nI_pos (by omega)), if_neg (show ¬ (3000 : Int32) ≤ nI T from nI_ge (a := T) (b := 3000) hT (by decide)), x7_top h9 (by omega) (Nat.le_refl _), ob_i, e, x7_top h9 (by omega) (by omega), ob_i, nI_1, ck_t (inb_nI (by omega) (by decide)), lt1_i, sA_nI (by omega)]
end XK
end W_62
