/-! what rests on what: the reference's bits are its sets -/
theorem bt_nI {k i : Nat} (hi : i < 32) : bt (nI k) i = k.testBit i := by
  show (BitVec.ofNat 32 k).getLsbD i = _
  rw [BitVec.getLsbD_ofNat, decide_eq_true hi, Bool.true_and]
theorem b_31 : ∀ i, i < 32 → bt 31 i = decide (i < 5) := by decide +kernel
theorem nI_31 {k : Nat} : nI k &&& 31 = nI (k % 32) := by
  refine b_ext fun i hi => ?_
  rw [b_and, b_31 i hi, bt_nI hi, bt_nI hi, show k % 32 = k % 2 ^ 5 from rfl, Nat.testBit_mod_two_pow, Bool.and_comm]
def TB (R : Nat → Int32) (p k : Nat) : Prop := bt (R (119 * p + k / 32)) (k % 32) = true
def bA (A : Nat → Int32) (k : Nat) : Prop := bt (A (k / 32)) (k % 32) = true
section ZB
variable {R A : Nat → Int32} {p p' k k' l n T : Nat} {c : Prop}
theorem rbt_b : ¬ rbt R p k = 0 ↔ TB R p k := by
  unfold rbt TB
  rw [nI_31, ← bt_shr (k := k % 32) (Nat.mod_lt k (by decide))]
  by_cases q : (dx_shr (R (119 * p + k / 32)) (nI (k % 32)) &&& 1) = 1
  · rw [if_pos q]
    exact ⟨fun _ => q, fun _ => by decide⟩
  · rw [if_neg q]
    exact ⟨fun w => absurd rfl w, fun w => absurd w q⟩
theorem bA_cl (hk : k < 3808) : bA (clA A) k ↔ False := by
  unfold bA clA
  rw [if_pos (show k / 32 < 119 by omega), b_0]
  exact ⟨fun w => absurd w Bool.false_ne_true, False.elim⟩
theorem bA_or (hk : k < 3808) : bA (orB A R p) k ↔ (bA A k ∨ TB R p k) := by
  unfold bA orB TB
  rw [if_pos (show k / 32 < 119 by omega), b_or, Bool.or_eq_true_iff]
theorem bA_add : bA (addB A k') k ↔ (bA A k ∨ k = k') := by
  unfold bA addB
  by_cases q : k / 32 = k' / 32
  · rw [q, pk_us, b_or, Bool.or_eq_true_iff, nI_31, bt_shl (Nat.mod_lt _ (by decide)) (Nat.mod_lt _ (by decide)), decide_eq_true_eq]
    exact or_congr Iff.rfl ⟨fun w => by omega, fun w => by rw [w]⟩
  · rw [pk_un q]
    exact ⟨Or.inl, fun w => w.elim id (fun z => absurd (by rw [z]) q)⟩
theorem bA_ifo [Decidable c] (hk : k < 3808) : bA (if c then orB A R p else A) k ↔ (bA A k ∨ (c ∧ TB R p k)) := by
  by_cases q : c
  · rw [if_pos q, bA_or hk]
    exact or_congr Iff.rfl ⟨fun w => ⟨q, w⟩, fun w => w.2⟩
  · rw [if_neg q]
    exact ⟨Or.inl, fun w => w.elim id (fun z => absurd z.1 q)⟩
theorem bA_ifa [Decidable c] : bA (if c then addB A k' else A) k ↔ (bA A k ∨ (c ∧ k = k')) := by
  by_cases q : c
  · rw [if_pos q, bA_add]
    exact or_congr Iff.rfl ⟨fun w => ⟨q, w⟩, fun w => w.2⟩
  · rw [if_neg q]
    exact ⟨Or.inl, fun w => w.elim id (fun z => absurd z.1 q)⟩
theorem TB_st (hk : k < 3808) : TB (stR R A p) p' k ↔ (if p' = p then bA A k else TB R p' k) := by
  unfold TB stR bA
  by_cases q : p' = p
  · rw [if_pos q, q, if_pos (show 119 * p ≤ 119 * p + k / 32 ∧ 119 * p + k / 32 < 119 * p + 119 by omega), Nat.add_sub_cancel_left]
  · rw [if_neg q, if_neg (show ¬ (119 * p ≤ 119 * p' + k / 32 ∧ 119 * p' + k / 32 < 119 * p + 119) by omega)]
theorem lkA_b {P : Prg} {m : Row} {x : Nat} (hx : x < 3808) : bA (lkA P m l R A) x ↔ lkS P m l (TB R) x := by
  unfold lkA lkS
  dsimp only
  by_cases q : kindOf P (m 120) = -1
  · rw [if_pos q, bA_cl hx]
    exact ⟨False.elim, fun w => w.1 q⟩
  · rw [if_neg q, bA_add, bA_ifa, bA_ifo hx, bA_ifo hx, bA_ifo hx, bA_ifo hx, bA_cl hx, and_iff_right q]
theorem pkS_e {L : Lg} {lo : Nat} {S S' : SetB} (h : ∀ p k, p < 40 → k < 3808 → (S p k ↔ S' p k)) : ∀ f p k, p < 40 → k < 3808 → (pkS L lo f S p k ↔ pkS L lo f S' p k)
  | 0, p, k, hp, hk => h p k hp hk
  | f + 1, p, k, hp, hk => by
    show stP (pkS L lo f S) (fun k => k = 3008 + (lo + f)) (tn (L.2.2.2.1 (lo + f))) p k ↔ stP (pkS L lo f S') (fun k => k = 3008 + (lo + f)) (tn (L.2.2.2.1 (lo + f))) p k
    by_cases q : p = tn (L.2.2.2.1 (lo + f))
    · rw [← q, stP_y, stP_y]
    · rw [stP_n q, stP_n q]
      exact pkS_e h f p k hp hk
theorem rpk_b {L : Lg} (hL : okL L n) : ∀ (f : Nat) (m : Row) (l : Nat) (R A : Nat → Int32), n - l = f → l ≤ n → ∀ p k, p < 40 → k < 3808 → (TB (rpk L n f m l R A).1 p k ↔ pkS L l ((spk L n m l).2 - l) (TB R) p k)
  | 0, m, l, R, A, hf, hl, p, k, hp, hk => by
    have e0 : (spk L n m l).2 - l = 0 := by
      rw [spk_no (fun q => absurd q.1 (by omega))]
      exact Nat.sub_self l
    rw [e0]
    exact Iff.rfl
  | f + 1, m, l, R, A, hf, hl, p, k, hp, hk => by
    by_cases q : l < n ∧ L.2.1 l = 2 ∧ L.1 l = m 133
    · have hle := (spk_le (L := L) (n := n) (n - (l + 1)) (mput m (tn (L.2.2.2.1 l)) (L.2.2.2.2 l) (L.2.2.1 l)) (l + 1) rfl (by omega)).1
      obtain ⟨pl, hpl, epl⟩ := hL l q.1 q.2.1
      have ih := rpk_b hL f (mput m (tn (L.2.2.2.1 l)) (L.2.2.2.2 l) (L.2.2.1 l)) (l + 1) (stR R (addB (clA A) (3008 + l)) (tn (L.2.2.2.1 l))) (addB (clA A) (3008 + l)) (by omega) (by omega) p k hp hk
      unfold rpk
      rw [if_pos q, ih, spk_yes q]
      generalize (spk L n (mput m (tn (L.2.2.2.1 l)) (L.2.2.2.2 l) (L.2.2.1 l)) (l + 1)).2 = e at *
      rw [show e - l = (e - (l + 1)) + 1 by omega, pkS_1]
      refine pkS_e (fun p' k' hp' hk' => ?_) _ p k hp hk
      have ept : tn (L.2.2.2.1 l) = pl := by rw [epl, tnn (by omega)]
      rw [ept, TB_st hk', bA_add, bA_cl hk']
      by_cases z : p' = pl
      · rw [if_pos z, z, stP_y]
        exact ⟨fun w => w.elim False.elim id, Or.inr⟩
      · rw [if_neg z, stP_n z]
    · have e0 : (spk L n m l).2 - l = 0 := by
        rw [spk_no q]
        exact Nat.sub_self l
      unfold rpk
      rw [if_neg q, e0]
      exact Iff.rfl
theorem reg40 {x : Int32} (h : isReg x) : tn x < 40 := by
  obtain ⟨p, hp, e⟩ := h
  rw [e, tnn (by omega)]
  omega
theorem lkS_e {P : Prg} {m : Row} {S S' : SetB} {x : Nat} (hP : okP P) (hm : okR m) (hx : x < 3808) (h : ∀ p k, p < 40 → k < 3808 → (S p k ↔ S' p k)) : lkS P m l S x ↔ lkS P m l S' x := by
  obtain ⟨cn, hc1, hc2⟩ := hm.1
  unfold lkS
  refine and_congr_right (fun q => ?_)
  rw [hc2] at q
  obtain ⟨c64, ek⟩ := kind_in hc1 q
  have hv := hP cn c64
  rw [← ek] at hv
  rw [hc2, tnn (show cn < 2 ^ 31 by omega)]
  generalize kindOf P (nI cn) = k at *
  refine or_congr (or_congr (or_congr (or_congr (or_congr (or_congr Iff.rfl ?_) ?_) ?_) ?_) Iff.rfl) Iff.rfl
  · refine and_congr_right (fun c => h _ _ (reg40 ?_) hx)
    rcases c with c | c | c | c | c | c
    · exact (fine_b hv (Or.inl c)).2
    · exact (fine_b hv (Or.inr (Or.inl c))).2
    · exact (fine_b hv (Or.inr (Or.inr (Or.inr c)))).2
    · exact (fine_b hv (Or.inr (Or.inr (Or.inl c)))).2
    · exact (fine_c hv (Or.inl c)).2.1
    · exact (fine_c hv (Or.inr c)).2.1
  · exact and_congr_right (fun c => h _ _ (reg40 (fine_c hv c).2.2) hx)
  · exact and_congr_right (fun c => h _ _ (reg40 (fine_b hv (Or.inr (Or.inr (Or.inr c)))).1) hx)
  · refine and_congr_right (fun c => h _ _ ?_ hx)
    obtain ⟨j, hj, j1, j2⟩ := in_nat c.2 (by decide)
    have e31 : (31 : Int32).toInt = 31 := rfl
    rw [hj, tnn (by omega)]
    omega
theorem rsR_b {P : Prg} {L : Lg} (hG : okG P L n T) (hR : ∀ i, i < 4760 → R i = 0) : ∀ t, t ≤ T → ∀ p k, p < 40 → k < 3808 → (TB (rsR P L n R A t).1 p k ↔ rS P L (rp P L n) t p k)
  | 0, ht, p, k, hp, hk => by
    show TB (rpk L n n zrow 0 R A).1 p k ↔ pkS L 0 (spk L n zrow 0).2 (fun _ _ => False) p k
    rw [rpk_b hG.2.1 n zrow 0 R A (by omega) (by omega) p k hp hk, Nat.sub_zero]
    refine pkS_e (fun p' k' hp' hk' => ?_) _ p k hp hk
    unfold TB
    rw [hR _ (by omega), b_0]
    exact ⟨fun w => absurd w Bool.false_ne_true, False.elim⟩
  | t + 1, ht, p, k, hp, hk => by
    obtain ⟨i1, i2, i3⟩ := rp_ok hG t (by omega)
    have ih := rsR_b hG hR t (by omega)
    have hput := step_put (num := L.2.2.1 (rp P L n t).2) (en := nI (rp P L n t).2) hG.1 i1
    have hle : loS P L (rp P L n t).1 (rp P L n t).2 ≤ n := by
      have htk := nxt_l (num := L.2.2.1 (rp P L n t).2) hG.1 i1 (show (rp P L n t).2 < 2 ^ 31 by have := hG.2.2.1; omega)
      unfold loS
      rcases htk with q | ⟨q1, q2⟩
      · rw [if_pos q]
        exact i3
      · rw [if_neg q2]
        exact hG.2.2.2.2 t (by omega) q1
    show TB (rsN P L n (rp P L n t).1 (rp P L n t).2 (rsR P L n R A t).1 (rsR P L n R A t).2).1 p k ↔ pkS L (loS P L (rp P L n t).1 (rp P L n t).2) ((nxt P L n (rp P L n t).1 (rp P L n t).2).2 - loS P L (rp P L n t).1 (rp P L n t).2) (stS P L (rp P L n t).1 (rp P L n t).2 (rS P L (rp P L n) t)) p k
    generalize (rp P L n t).1 = m at *
    generalize (rp P L n t).2 = l at *
    generalize (rsR P L n R A t).1 = R1 at *
    generalize (rsR P L n R A t).2 = A1 at *
    generalize rS P L (rp P L n) t = S at *
    show TB (rpk L n (n - loS P L m l) (mstep P m (L.2.2.1 l) (nI l)).1 (loS P L m l) (if (mstep P m (L.2.2.1 l) (nI l)).2.2.2 = -1 then R1 else stR R1 (lkA P m l R1 A1) (tn (mstep P m (L.2.2.1 l) (nI l)).2.2.2)) (lkA P m l R1 A1)).1 p k ↔ pkS L (loS P L m l) ((spk L n (mstep P m (L.2.2.1 l) (nI l)).1 (loS P L m l)).2 - loS P L m l) (stS P L m l S) p k
    rw [rpk_b hG.2.1 _ _ _ _ _ rfl hle p k hp hk]
    refine pkS_e (fun p' k' hp' hk' => ?_) _ p k hp hk
    unfold stS
    by_cases z : (mstep P m (L.2.2.1 l) (nI l)).2.2.2 = -1
    · rw [if_pos z, if_pos z]
      exact ih p' k' hp' hk'
    · rw [if_neg z, if_neg z]
      obtain ⟨pl, hpl, epl⟩ := hput.resolve_left z
      rw [epl, tnn (by omega), TB_st hk', lkA_b hk', lkS_e hG.1 i1 hk' ih]
      by_cases y : p' = pl
      · rw [if_pos y, y, stP_y]
      · rw [if_neg y, stP_n y]
        exact ih p' k' hp' hk'
theorem rsB_S {um : rg_U} {r t : Nat} (hG : okG (Pm um r) (Lm um r) (nr um r) T) (ht : t ≤ T) (hp : p < 40) (hk : k < 3808) : ¬ rsB um r t p k = 0 ↔ rS (Pm um r) (Lm um r) (rpm um r) t p k := by
  unfold rsB
  rw [rbt_b]
  exact rsR_b hG (fun i hi => if_pos hi) t ht p k hp hk
end ZB
