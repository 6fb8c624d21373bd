/-! the class's list of what is held -/
def cn (P : Nat → Bool) : Nat → Nat
  | 0 => 0
  | k + 1 => cn P k + (if P k = true then 1 else 0)
theorem cn_y {P : Nat → Bool} {k : Nat} (h : P k = true) : cn P (k + 1) = cn P k + 1 := by
  show cn P k + (if P k = true then 1 else 0) = _
  rw [if_pos h]
theorem cn_n {P : Nat → Bool} {k : Nat} (h : ¬ P k = true) : cn P (k + 1) = cn P k := by
  show cn P k + (if P k = true then 1 else 0) = _
  rw [if_neg h, Nat.add_zero]
theorem cn_mono {P Q : Nat → Bool} : ∀ M, (∀ k, k < M → P k = true → Q k = true) → cn P M ≤ cn Q M
  | 0, _ => Nat.le_refl _
  | M + 1, h => by
    have ih := cn_mono M (fun k hk => h k (by omega))
    by_cases q : P M = true
    · rw [cn_y q, cn_y (h M (by omega) q)]; omega
    · rw [cn_n q]
      by_cases q2 : Q M = true
      · rw [cn_y q2]; omega
      · rw [cn_n q2]; exact ih
theorem cn_more {P : Nat → Bool} {M : Nat} : ∀ N, M ≤ N → cn P M ≤ cn P N
  | 0, h => by rw [show M = 0 by omega]; exact Nat.le_refl _
  | N + 1, h => by
    rcases Nat.lt_or_ge N M with y | y
    · rw [show M = N + 1 by omega]; exact Nat.le_refl _
    · have ih := cn_more (P := P) N y
      by_cases q : P N = true
      · rw [cn_y q]; omega
      · rw [cn_n q]; exact ih
theorem cn_two {P : Nat → Bool} : ∀ M, cn P (2 * M) = cn (fun k => P (2 * k)) M + cn (fun k => P (2 * k + 1)) M
  | 0 => rfl
  | M + 1 => by
    rw [show 2 * (M + 1) = 2 * M + 1 + 1 by omega]
    show cn P (2 * M) + (if P (2 * M) = true then 1 else 0) + (if P (2 * M + 1) = true then 1 else 0) = (cn (fun k => P (2 * k)) M + (if P (2 * M) = true then 1 else 0)) + (cn (fun k => P (2 * k + 1)) M + (if P (2 * M + 1) = true then 1 else 0))
    rw [cn_two M]
    omega
theorem cn_win {P : Nat → Bool} {lo c : Nat} : ∀ M, (∀ k, k < M → P k = true → lo ≤ k ∧ k < lo + c) → cn P M ≤ M - lo ∧ cn P M ≤ c
  | 0, _ => ⟨Nat.zero_le _, Nat.zero_le _⟩
  | M + 1, h => by
    have ih := cn_win M (fun k hk => h k (by omega))
    by_cases q : P M = true
    · have := h M (by omega) q
      rw [cn_y q]; omega
    · rw [cn_n q]; omega
theorem tzf_f : ∀ (f k : Nat), 0 < k → k < 2 ^ f → tzf f k = tzf (f + 1) k
  | 0, k, h0, h1 => by simp at h1; omega
  | f + 1, k, h0, h1 => by
    rw [tzf, tzf]
    by_cases h : k % 2 = 1
    · rw [if_pos h, if_pos h]
    · rw [if_neg h, if_neg h, tzf_f f (k / 2) (by omega) (by rw [Nat.pow_succ] at h1; omega)]
theorem tz_two {k : Nat} (h0 : 0 < k) (hk : k < 2 ^ 30) : tz (2 * k) = tz k + 1 := by
  unfold tz
  rw [tzf, if_neg (by omega), show 2 * k / 2 = k by omega, tzf_f 30 k h0 hk]
theorem gw_two {k d : Nat} (h0 : 0 < k) (hk : k < 2 ^ 30) : gw (2 * k) d = 2 * gw k d := by
  unfold gw
  rw [tz_two h0 hk, Nat.pow_succ, Nat.mul_add, ← Nat.mul_assoc, Nat.mul_comm (d * 2 ^ tz k) 2]
theorem gw_odd {k d : Nat} (h : k % 2 = 1) : gw k d = k + d := by
  unfold gw tz
  rw [tzf, if_pos h, Nat.pow_zero, Nat.mul_one]
def heldP (w d k : Nat) : Bool := decide (0 < k ∧ k ≤ w ∧ w < gw k d)
theorem heldP_i {w d k : Nat} : heldP w d k = true ↔ 0 < k ∧ k ≤ w ∧ w < gw k d := by
  unfold heldP
  exact decide_eq_true_iff
theorem held_cn {d : Nat} (hd : d ≤ 8) : ∀ (b w M : Nat), w < 2 ^ b → w < 2 ^ 30 → cn (heldP w d) M ≤ 4 * b
  | 0, w, M, h, _ => by
    have h0 : w = 0 := by simp at h; exact h
    have := (cn_win (P := heldP w d) (lo := 0) (c := 0) M (fun k _ q => by have := heldP_i.mp q; omega)).2
    omega
  | b + 1, w, M, h, h30 => by
    have h1 := cn_more (P := heldP w d) (M := M) (2 * M) (by omega)
    rw [cn_two M] at h1
    have h2 := cn_mono (P := fun k => heldP w d (2 * k)) (Q := heldP (w / 2) d) M (fun k _ q => by
      obtain ⟨q1, q2, q3⟩ := heldP_i.mp q
      rw [gw_two (by omega) (by omega)] at q3
      exact heldP_i.mpr ⟨by omega, by omega, by omega⟩)
    have h3 := held_cn hd b (w / 2) M (by rw [Nat.pow_succ] at h; omega) (by omega)
    have h4 := (cn_win (P := fun k => heldP w d (2 * k + 1)) (lo := (w - 7) / 2) (c := 4) M (fun k _ q => by
      obtain ⟨q1, q2, q3⟩ := heldP_i.mp q
      rw [gw_odd (by omega)] at q3
      omega)).2
    omega
/-- never more than 49 are held -/
theorem cH_49 {H : Nat → Int32} {w d : Nat} (hd : d ≤ 8) (hw : w ≤ 3000) (h : ∀ k, k ≤ 3000 → ¬ H k = 0 → k = 0 ∨ (k ≤ w ∧ w < gw k d)) : cH H 3001 ≤ 49 := by
  have key : ∀ M, M ≤ 3001 → cH H M ≤ (if M = 0 then 0 else 1) + cn (heldP w d) M := by
    intro M
    induction M with
    | zero => intro _; exact Nat.zero_le _
    | succ M ih =>
      intro hM
      have ih := ih (by omega)
      rw [if_neg (by omega)]
      show cH H M + (if H M = 0 then 0 else 1) ≤ _
      by_cases q : H M = 0
      · rw [if_pos q]
        have := cn_more (P := heldP w d) (M := M) (M + 1) (by omega)
        split at ih <;> omega
      · rw [if_neg q]
        rcases h M (by omega) q with e | ⟨e1, e2⟩
        · subst e
          show cH H 0 + 1 ≤ 1 + _
          exact Nat.le_add_right _ _
        · by_cases e0 : M = 0
          · subst e0
            show cH H 0 + 1 ≤ 1 + _
            exact Nat.le_add_right _ _
          · rw [if_neg e0] at ih
            rw [cn_y (heldP_i.mpr ⟨by omega, e1, e2⟩)]
            omega
  have h1 := key 3001 (Nat.le_refl _)
  have h2 := held_cn hd 12 w 3001 (by omega) (by omega)
  rw [if_neg (by decide)] at h1
  omega
/-- f lists those of S, rising -/
def HL (f : Nat → Nat) (n : Nat) (S : Nat → Prop) : Prop := (∀ i j, i < j → j < n → f i < f j) ∧ ∀ k, S k ↔ ∃ i, i < n ∧ f i = k
theorem HL_le {f : Nat → Nat} {n i j : Nat} {S : Nat → Prop} (h : HL f n S) (hij : i ≤ j) (hj : j < n) : f i ≤ f j := by
  rcases Nat.lt_or_ge i j with y | y
  · exact Nat.le_of_lt (h.1 i j y hj)
  · rw [show i = j by omega]; exact Nat.le_refl _
theorem HL_count {H : Nat → Int32} {f : Nat → Nat} {n : Nat} (h : HL f n (fun k => k ≤ 3000 ∧ ¬ H k = 0)) : cH H 3001 = n := by
  have key : ∀ M, M ≤ 3001 → ∃ i, i ≤ n ∧ cH H M = i ∧ (∀ j, j < i → f j < M) ∧ ∀ j, i ≤ j → j < n → M ≤ f j := by
    intro M
    induction M with
    | zero => exact fun _ => ⟨0, Nat.zero_le _, rfl, fun j hj => by omega, fun j _ _ => Nat.zero_le _⟩
    | succ M ih =>
      intro hM
      obtain ⟨i, h1, h2, h3, h4⟩ := ih (by omega)
      by_cases q : H M = 0
      · refine ⟨i, h1, ?_, fun j hj => by have := h3 j hj; omega, fun j a b => ?_⟩
        · show cH H M + (if H M = 0 then 0 else 1) = i
          rw [if_pos q]; exact h2
        · have := h4 j a b
          rcases Nat.lt_or_ge M (f j) with y | y
          · exact y
          · have e : f j = M := by omega
            have := (h.2 (f j)).mpr ⟨j, b, rfl⟩
            rw [e] at this
            exact absurd q this.2
      · obtain ⟨a, ha, e⟩ := (h.2 M).mp ⟨by omega, q⟩
        have ea : a = i := by
          rcases Nat.lt_trichotomy a i with y | y | y
          · have := h3 a y; omega
          · exact y
          · have h5 := h4 i (Nat.le_refl _) (by omega)
            have h6 := h.1 i a y ha
            omega
        subst ea
        refine ⟨a + 1, by omega, ?_, fun j hj => ?_, fun j b1 b2 => ?_⟩
        · show cH H M + (if H M = 0 then 0 else 1) = a + 1
          rw [if_neg q, h2]
        · rcases Nat.lt_or_ge j a with y | y
          · have := h3 j y; omega
          · rw [show j = a by omega]; omega
        · have := h.1 a j (by omega) b2
          omega
  obtain ⟨i, h1, h2, h3, h4⟩ := key 3001 (Nat.le_refl _)
  rcases Nat.lt_or_ge i n with y | y
  · have h5 := h4 i (Nat.le_refl _) y
    have := (h.2 (f i)).mpr ⟨i, y, rfl⟩
    omega
  · omega
theorem hk_is {H : Nat → Int32} {k : Nat} : ∀ K, k ≤ K → (k = 0 ∨ ¬ H k = 0) → (∀ j, k < j → j ≤ K → H j = 0) → hk H K = k
  | 0, h, _, _ => by rw [show k = 0 by omega]; rfl
  | K + 1, h, h0, hz => by
    unfold hk
    by_cases e : k = K + 1
    · subst e
      rcases h0 with z | z
      · omega
      · rw [if_neg z]
    · rw [if_pos (hz (K + 1) (by omega) (Nat.le_refl _))]
      exact hk_is K (by omega) h0 (fun j h1 h2 => hz j h1 (by omega))
/-- what lies in the list of what is held -/
def HI (u : rg_U) (o : Nat) (H : Nat → Int32) (U D : Nat) : Prop := rF u o 3 = nI U ∧ rF u o 4 = nI D ∧ ∃ n f, rF u o 1 = nI n ∧ n ≤ 64 ∧ (∀ i, i < n → u.2.1 (o + 1) i = nI (f i * U)) ∧ HL f n (fun k => k ≤ 3000 ∧ ¬ H k = 0)
/-- what is held lies at times that can be -/
def HT (H : Nat → Int32) (U T : Nat) : Prop := ∀ k, k ≤ 3000 → ¬ H k = 0 → k * U ≤ T
section XH
variable {F o U D T : Nat} {H : Nat → Int32} {u : rg_U}
theorem HI_c {u' : rg_U} (h : HI u o H U D) (h1 : u'.1 (100 * o + 1) = u.1 (100 * o + 1)) (h3 : u'.1 (100 * o + 3) = u.1 (100 * o + 3)) (h4 : u'.1 (100 * o + 4) = u.1 (100 * o + 4)) (ha : u'.2.1 (o + 1) = u.2.1 (o + 1)) : HI u' o H U D := by
  unfold HI rF at *
  rw [h1, h3, h4, ha]
  exact h
theorem HI_H {H' : Nat → Int32} (h : HI u o H U D) (e : ∀ k, k ≤ 3000 → H' k = H k) : HI u o H' U D := by
  obtain ⟨h3, h4, n, f, h1, hn, ha, hl⟩ := h
  refine ⟨h3, h4, n, f, h1, hn, ha, hl.1, fun k => ?_⟩
  rw [← hl.2 k]
  constructor
  · rintro ⟨a, b⟩; rw [e k a] at b; exact ⟨a, b⟩
  · rintro ⟨a, b⟩; rw [← e k a] at b; exact ⟨a, b⟩
theorem x2_has_y {n i : Nat} (hn : rF u o 1 = nI n) (h64 : n ≤ 64) (hi : i < n) : g_X2_has F o (nI i) u = some 1 := by
  unfold g_X2_has
  rw [if_neg (nI_pos (by omega)), hn, if_neg (nI_ge hi (by omega)), if_neg (show ¬ (64 : Int32) ≤ nI i from nI_ge (a := i) (b := 64) (by omega) (by decide))]
theorem x2_time {n i : Nat} (hn : rF u o 1 = nI n) (h64 : n ≤ 64) (hi : i < n) : g_X2_timeOf F o (nI i) u = some (u.2.1 (o + 1) i) := by
  unfold g_X2_timeOf
  rw [x2_has_y hn h64 hi, ob_i, if_neg (by decide), ck_t (inb_nI (by omega) (by decide)), rA_nI (by omega)]
theorem c_latestBy {t : Nat} (h : HI u o H U D) (h0 : ¬ H 0 = 0) (hT : HT H U T) (hT3 : T ≤ 3000) (hU : 0 < U) (ht : t ≤ 3000) (hF : 10000 < F) : g_X2_latestBy F o (nI t) u = some (nI (hk H (t / U) * U)) := by
  obtain ⟨-, -, n, f, hn, h64, ha, hl⟩ := h
  have hf : ∀ i, i < n → f i * U ≤ 3000 := fun i hi => by
    obtain ⟨a, b⟩ := (hl.2 (f i)).mpr ⟨i, hi, rfl⟩
    have := hT _ a b
    omega
  obtain ⟨z, hz, ez⟩ := (hl.2 0).mp ⟨by omega, h0⟩
  have f0 : f 0 = 0 := by have := HL_le hl (Nat.zero_le z) hz; omega
  unfold g_X2_latestBy
  refine tt_eq (tt_b (tt_lp (I := fun s => ∃ i, i ≤ n ∧ s.2 = nI i ∧ s.1 = nI (if i = 0 then 0 else f (i - 1) * U) ∧ ∀ j, j < i → f j * U ≤ t) (m := fun s => (64 - s.2.toInt).toNat) (P := fun r => r = nI (hk H (t / U) * U)) ?_ F _ ?_ ?_) (fun _ q => q))
  · rintro ⟨a, b⟩ ⟨i, h1, h2, h3, h4⟩
    dsimp only at h2 h3 ⊢
    subst h2 h3
    unfold g_X2_latestBy_l4
    have fin : (i = n ∨ (i < n ∧ t < f i * U)) → nI (if i = 0 then 0 else f (i - 1) * U) = nI (hk H (t / U) * U) := by
      intro hx
      have hi : 0 < i := by
        rcases hx with e | ⟨e1, e2⟩
        · omega
        · rcases Nat.eq_zero_or_pos i with e | e
          · subst e; rw [f0] at e2; omega
          · exact e
      have hle : f (i - 1) ≤ t / U := (Nat.le_div_iff_mul_le hU).mpr (h4 (i - 1) (by omega))
      obtain ⟨b1, b2⟩ := (hl.2 (f (i - 1))).mpr ⟨i - 1, by omega, rfl⟩
      rw [if_neg (by omega), hk_is (t / U) hle (Or.inr b2) (fun j c1 c2 => Classical.byContradiction fun c3 => ?_)]
      have hj3 : j ≤ 3000 := by have := Nat.div_le_self t U; omega
      obtain ⟨a', ha', ea⟩ := (hl.2 j).mp ⟨hj3, c3⟩
      have hai : i ≤ a' := by
        rcases Nat.lt_or_ge a' i with y | y
        · have := HL_le hl (show a' ≤ i - 1 by omega) (by omega)
          omega
        · exact y
      rcases hx with e | ⟨e1, e2⟩
      · omega
      · have h5 := HL_le hl hai ha'
        have h6 : j * U ≤ t := (Nat.le_div_iff_mul_le hU).mp c2
        have h7 : f i * U ≤ j * U := Nat.mul_le_mul_right U (by omega)
        omega
    by_cases q : i = n
    · rw [hn, if_pos (by rw [q]; exact nI_le (Nat.le_refl _) (by omega))]
      exact tt_r (fin (Or.inl q))
    · rw [hn, if_neg (nI_ge (by omega) (by omega)), x2_time hn h64 (by omega), ob_i, ha i (by omega)]
      have := hf i (by omega)
      by_cases q2 : t < f i * U
      · rw [if_pos (nI_lt q2 (by omega))]
        exact tt_r (fin (Or.inr ⟨by omega, q2⟩))
      · rw [if_neg (nI_nlt (by omega) (by omega)), ob_i]
        refine tt_l ⟨⟨i + 1, by omega, nI_1 i, ?_, fun j hj => ?_⟩, ?_⟩
        · rw [if_neg (by omega), Nat.add_sub_cancel]
        · rcases Nat.lt_or_ge j i with y | y
          · exact h4 j y
          · rw [show j = i by omega]; omega
        · exact ms_u (C := 64) (by omega) (by omega)
  · exact ms_0 (C := 64) (by omega)
  · exact ⟨0, Nat.zero_le _, rfl, rfl, fun j hj => by omega⟩
/-- times above t go -/
theorem c_dropAbove {t : Nat} (h : HI u o H U D) (hT : HT H U T) (hT3 : T ≤ 3000) (hF : 10000 < F) (ht : t ≤ 3000) : ∃ w, g_X2_dropAbove F o (nI t) u = some w ∧ w.2 = u.2 ∧ (∀ k, k ≠ 100 * o + 1 → w.1 k = u.1 k) ∧ HI w o (fun k => if t < k * U then 0 else H k) U D := by
  obtain ⟨h3, h4, n, f, hn, h64, ha, hl⟩ := h
  have hf : ∀ i, i < n → f i * U ≤ 3000 := fun i hi => by
    obtain ⟨a, b⟩ := (hl.2 (f i)).mpr ⟨i, hi, rfl⟩
    have := hT _ a b
    omega
  have key : Tt (g_X2_dropAbove F o (nI t) u) (fun w => w.2 = u.2 ∧ (∀ k, k ≠ 100 * o + 1 → w.1 k = u.1 k) ∧ ∃ i, i ≤ n ∧ rF w o 1 = nI i ∧ (∀ j, j < i → f j * U ≤ t) ∧ ∀ j, i ≤ j → j < n → t < f j * U) := by
    unfold g_X2_dropAbove
    rw [hn]
    refine tt_b (tt_lp (I := fun s => s.2.2 = u.2 ∧ (∀ k, k ≠ 100 * o + 1 → s.2.1 k = u.1 k) ∧ ∃ i, i ≤ n ∧ s.1 = nI i - 1 ∧ rF s.2 o 1 = nI i ∧ ∀ j, i ≤ j → j < n → t < f j * U) (m := fun s => (s.1.toInt + 1).toNat) (P := fun w => w.2 = u.2 ∧ (∀ k, k ≠ 100 * o + 1 → w.1 k = u.1 k) ∧ ∃ i, i ≤ n ∧ rF w o 1 = nI i ∧ (∀ j, j < i → f j * U ≤ t) ∧ ∀ j, i ≤ j → j < n → t < f j * U) ?_ F _ ?_ ?_) (fun _ z => z)
    · rintro ⟨a, w⟩ ⟨h5, h6, i, h7, h8, h9, h10⟩
      dsimp only at h5 h6 h8 h9 ⊢
      unfold g_X2_dropAbove_l7
      cases i with
      | zero =>
        rw [if_pos (by rw [h8]; decide)]
        exact tt_r ⟨h5, h6, 0, h7, h9, fun j hj => by omega, h10⟩
      | succ i =>
        have e1 : a = nI i := by rw [h8]; exact nI_pred i
        subst e1
        have := hf i (by omega)
        rw [if_neg (nI_pos (by omega)), x2_time h9 (by omega) (by omega), ob_i, h5, ha i (by omega)]
        by_cases q : f i * U ≤ t
        · rw [if_pos (nI_le q (by omega))]
          refine tt_r ⟨h5, h6, i + 1, h7, h9, fun j hj => ?_, h10⟩
          exact Nat.le_trans (Nat.mul_le_mul_right U (HL_le hl (show j ≤ i by omega) (by omega))) q
        · rw [if_neg (nI_ge (by omega) (by omega)), lt1_i]
          refine tt_l ⟨⟨h5, fun k hk => by rw [sF_n hk]; exact h6 k hk, i, by omega, ?_, sF_y, fun j b1 b2 => ?_⟩, ?_⟩
          · dsimp only
            rw [Int32.sub_eq_add_neg]
          · rcases Nat.lt_or_ge i j with y | y
            · exact h10 j (by omega) b2
            · rw [show j = i by omega]; omega
          · exact ms_d1 (by omega)
    · exact ms_i (by omega) (by omega)
    · exact ⟨rfl, fun _ _ => rfl, n, Nat.le_refl _, rfl, hn, fun j b1 b2 => by omega⟩
  obtain ⟨w, e, w1, w2, i, hi, w3, w4, w5⟩ := key
  refine ⟨w, e, w1, w2, ?_, ?_, i, f, w3, by omega, fun j hj => by rw [w1]; exact ha j (by omega), fun a b h1 h2 => hl.1 a b h1 (by omega), fun k => ?_⟩
  · rw [← h3]; exact w2 _ (by omega)
  · rw [← h4]; exact w2 _ (by omega)
  · constructor
    · rintro ⟨b1, b2⟩
      dsimp only at b2
      by_cases q : t < k * U
      · rw [if_pos q] at b2; exact absurd rfl b2
      · rw [if_neg q] at b2
        obtain ⟨j, hj, ej⟩ := (hl.2 k).mp ⟨b1, b2⟩
        refine ⟨j, ?_, ej⟩
        rcases Nat.lt_or_ge j i with y | y
        · exact y
        · have := w5 j y hj
          rw [ej] at this
          exact absurd this q
    · rintro ⟨j, hj, ej⟩
      obtain ⟨b1, b2⟩ := (hl.2 k).mpr ⟨j, by omega, ej⟩
      refine ⟨b1, ?_⟩
      dsimp only
      rw [if_neg]
      · exact b2
      · have := w4 j hj
        rw [ej] at this
        omega
end XH
