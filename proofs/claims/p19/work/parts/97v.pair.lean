/-! pair of the reference -/
def fpR (E : Nat → Nat → Bool) (C D i j a b : Nat) : Prop := i ≤ a ∧ a < C ∧ j ≤ b ∧ b < D ∧ hit E C D (lL E C D i j) a b ∧ ∀ a' b', i ≤ a' → j ≤ b' → b' < D → lxl a' b' a b → ¬ hit E C D (lL E C D i j) a' b'
def prR (E : Nat → Nat → Bool) (C D : Nat) : Nat → Nat → Nat → Prop
  | 0, a, b => fpR E C D 0 0 a b
  | k + 1, a, b => ∃ a' b', prR E C D k a' b' ∧ fpR E C D (a' + 1) (b' + 1) a b
theorem prR_lt {E : Nat → Nat → Bool} {C D : Nat} : ∀ {k a b : Nat}, prR E C D k a b → a < C ∧ b < D
  | 0, a, b, h => ⟨h.2.1, h.2.2.2.1⟩
  | k + 1, a, b, h => by
    obtain ⟨a', b', -, h⟩ := h
    exact ⟨h.2.1, h.2.2.2.1⟩
def sm49 (u v : rg_U) : Prop := v.2.1 = u.2.1 ∧ ∀ k, k ≠ 49 → k ≠ 50 → v.1 k = u.1 k
theorem m_findsl {F r1 r2 C D x : Nat} {u : rg_U} {E : Nat → Nat → Bool} (h1 : r1 < 5) (h2 : r2 < 5) (e1 : u.1 47 = nI r1) (e2 : u.1 48 = nI r2) (hE : E35 u r1 r2 = E) (hC : C ≤ 100) (hD : D ≤ 100) (e3 : u.2.1 19 r2 = nI D) (hT : ∀ i' j', i' ≤ C → j' ≤ D → u.2.1 35 (101 * i' + j') = nI (lL E C D i' j')) (hx : x < lL E C D 0 0) (hF : 10000 < F) : ∀ (f c i j : Nat) (v : rg_U), f + c = x + 1 → sm49 u v → lL E C D i j + c = lL E C D 0 0 → ((c = 0 ∧ i = 0 ∧ j = 0) ∨ ∃ a b c', c = c' + 1 ∧ prR E C D c' a b ∧ i = a + 1 ∧ j = b + 1 ∧ v.1 49 = nI a ∧ v.1 50 = nI b) → ∀ G, f < G → ∃ a b w, lp (fun (s : Int32 × Int32 × Int32 × rg_U) => g_X10_finds_l7 F (nI x) s.1 s.2.1 s.2.2.1 s.2.2.2) G (nI i, nI j, nI c, v) = some w ∧ sm49 u w ∧ prR E C D x a b ∧ w.1 49 = nI a ∧ w.1 50 = nI b
  | f, c, i, j, v, hf, hv, hL, hp, 0, hG => by omega
  | 0, c, i, j, v, hf, hv, hL, hp, G + 1, hG => by
    have hN := lL_le (E := E) (C := C) (D := D) (i := 0) (j := 0)
    rcases hp with z | ⟨a, b, c', z1, z2, z3, z4, z5, z6⟩
    · omega
    · refine ⟨a, b, v, lp_r ?_, hv, by rw [show x = c' by omega]; exact z2, z5, z6⟩
      show g_X10_finds_l7 F (nI x) (nI i) (nI j) (nI c) v = _
      unfold g_X10_finds_l7
      rw [if_pos (nI_lt (by omega) (by omega))]
  | f + 1, c, i, j, v, hf, hv, hL, hp, G + 1, hG => by
    have hN := lL_le (E := E) (C := C) (D := D) (i := 0) (j := 0)
    have hi : i < C := by
      rcases Nat.lt_or_ge i C with z | z
      · exact z
      · rw [lL_C z] at hL; omega
    have hj : j < D := by
      rcases Nat.lt_or_ge j D with z | z
      · exact z
      · rw [lL_D z] at hL; omega
    have hEv : E35 v r1 r2 = E := by rw [← hE]; unfold E35; rw [hv.1]
    have hl : lL E C D i j ≤ 100 := Nat.le_trans lL_le hC
    have hTv : ∀ i' j', i' ≤ C → j' ≤ D → v.2.1 35 (101 * i' + j') = nI (lL E C D i' j') := by rw [hv.1]; exact hT
    obtain ⟨a, b, y1, y2, y3, y4, y5, y6⟩ := lL_ex (E := E) (C := C) (D := D) _ i j (Nat.le_refl _) (by omega)
    have hm : (C - i - 1) * D ≤ 99 * 100 := Nat.mul_le_mul (by omega) hD
    obtain ⟨a2, b2, w1, w2, w3, w4, w5, w6, w7⟩ := m_scan (F := F) (x := nI x) (y := nI c) (u := v) (n := lL E C D i j) (j0 := j) h1 h2 (by rw [hv.2 47 (by decide) (by decide)]; exact e1) (by rw [hv.2 48 (by decide) (by decide)]; exact e2) hEv hC hD (by rw [hv.1]; exact e3) hl hTv hj _ i j (Nat.le_refl _) hi hj (Nat.le_refl _) ⟨a, b, by unfold lxl; omega, y2, y3, y4, y5, y6⟩ F (by omega)
    have hfp : fpR E C D i j a2 b2 := ⟨by unfold lxl at w2; omega, w3, w4, w5, w6, fun a' b' z1 z2 z3 z4 => w7 a' b' (by unfold lxl; omega) z4 z2 z3⟩
    have hb : g_X10_finds_l7 F (nI x) (nI i) (nI j) (nI c) v = some (.inl (nI (a2 + 1), nI (b2 + 1), nI (c + 1), sF (sF v 0 49 (nI a2)) 0 50 (nI b2))) := by
      unfold g_X10_finds_l7
      rw [if_neg (nI_nlt (by omega) (by omega)), show (101 : Int32) * nI i + nI j = nI (101 * i + j) by rw [show (101 : Int32) * nI i = nI (101 * i) from pk_mul 101 _, nI_add], ck_t (inb_nI (by omega) (by decide)), rA_nI (by omega), hTv i j (by omega) (by omega), w1, ob_i, lt1_i, lt1_i, nI_1, nI_1, nI_1]
    rw [lp_l (body := fun (s : Int32 × Int32 × Int32 × rg_U) => g_X10_finds_l7 F (nI x) s.1 s.2.1 s.2.2.1 s.2.2.2) (s := (nI i, nI j, nI c, v)) hb]
    refine m_findsl h1 h2 e1 e2 hE hC hD e3 hT hx hF f (c + 1) (a2 + 1) (b2 + 1) (sF (sF v 0 49 (nI a2)) 0 50 (nI b2)) (by omega) ⟨hv.1, fun k k1 k2 => ?_⟩ ?_ (Or.inr ⟨a2, b2, c, rfl, ?_, rfl, rfl, rfl, rfl⟩) G (by omega)
    · show upd (upd v.1 49 (nI a2)) 50 (nI b2) k = _
      rw [pk_un k2, pk_un k1, hv.2 k k1 k2]
    · have := w6.2
      omega
    · rcases hp with z | ⟨a', b', c', z1, z2, z3, z4, z5, z6⟩
      · obtain ⟨z1, z2, z3⟩ := z
        subst z1; subst z2; subst z3
        exact hfp
      · subst z1; subst z3; subst z4
        exact ⟨a', b', z2, hfp⟩
/-- a replay leaves the other fields -/
theorem rep_fld {F K W r t : Nat} {u w : rg_U} (h : okM u K W) (hr : act u K r) (ht : t ≤ Tr u r) (hF : 10000 < F) (hw : g_X10_replays F (nI r) (nI t) u = some w) : ∀ k, 43 ≤ k → w.1 k = u.1 k := by
  obtain ⟨hc, hs⟩ := h
  have hr5 := act5 hc.1.2.1 hr
  have hro := hc.2.2.2.2.1 r hr
  have hT3 := hro.2.2.2.2.2.2.1.1.2.2.2.1
  have fin : ∀ v x, v = cS u r x → g_X10_replays_j23 F (nI r) (nI t) v = some w → ∀ k, 43 ≤ k → w.1 k = u.1 k := by
    intro v x hv hw k hk
    have hcv : coreM v K W := by rw [hv]; exact core_cS hc
    have hsv : simM v K := by rw [hv]; exact simM_cS hs
    have hrv : act v K r := by rw [hv]; exact hr
    have eT : Tr v r = Tr u r := by rw [hv]; rfl
    obtain ⟨a, b, c, e⟩ := lay_all hcv hsv hrv (by rw [eT]; exact ht) hF
    unfold g_X10_replays_j23 at hw
    rw [e, ob_i] at hw
    have hw := Option.some.inj hw
    rw [← hw, sX_n (by omega), hv]
    show upd u.1 35 _ k = _
    rw [pk_un (by omega)]
  unfold g_X10_replays at hw
  rw [ck_t (inb_nI hr5 (by decide)), rA_nI (by omega), hro.2.1] at hw
  by_cases q : t = Tr u r
  · rw [if_pos (by rw [q])] at hw
    exact fin u 0 cS_0.symm hw
  · rw [if_neg (fun z => q (nI_inj (by omega) (by omega) z))] at hw
    have h0 : ¬ Hm u r 0 = 0 := by rw [hro.2.2.2.2.2.2.2.1.1]; decide
    have hle : hk (Hm u r) (t / Ur u r) * Ur u r ≤ t := Nat.le_trans (Nat.mul_le_mul_right _ (hk_le _ _)) (Nat.div_mul_le_self t (Ur u r))
    rw [m_heldBy hr5 h0 hro.2.2.1 hro.2.2.2.2.2.1.1 hro.2.2.2.2.2.1.2.1 (by omega) hF, ob_i, nI_sub hle, m_counts hr5, ob_i] at hw
    exact fin _ _ rfl hw
def prB (m m' : Row) (a : Nat) : Nat → Int32
  | 0 => 0
  | k + 1 => prB m m' a k ||| (if m (a + k) = m' (a + k) ∧ m (40 + (a + k)) = m' (40 + (a + k)) then 0 else dx_shl 1 (nI k))
theorem m_prl {F a n : Nat} {u : rg_U} (han : a + n ≤ 40) (hF : 10000 < F) : g_X10_pair_j200 F 0 (nI a) (nI n) u = some (prB (u.2.1 36) (u.2.1 31) a n, u) := by
  have h := lp_up (body := fun (s : Int32 × Int32) => g_X10_pair_l205 F (nI a) (nI n) u s.1 s.2) (fun k => (prB (u.2.1 36) (u.2.1 31) a k, nI k)) n (prB (u.2.1 36) (u.2.1 31) a n) (fun k hk => by
    show g_X10_pair_l205 F (nI a) (nI n) u (prB (u.2.1 36) (u.2.1 31) a k) (nI k) = _
    unfold g_X10_pair_l205 g_X10_pair_j270 g_X10_pair_j278
    rw [if_neg (nI_ge hk (by omega)), c0, c40, nI_add, nI_add, ck_t (inb_nI (by omega) (by decide)), ck_t (inb_nI (by omega) (by decide)), ck_t (inb_nI (by omega) (by decide)), ck_t (inb_nI (by omega) (by decide)), rA_nI (by omega), rA_nI (by omega), rA_nI (by omega), rA_nI (by omega), nI_1, Nat.add_assoc 40 a k]
    show _ = some (Sum.inl (prB (u.2.1 36) (u.2.1 31) a k ||| (if u.2.1 36 (a + k) = u.2.1 31 (a + k) ∧ u.2.1 36 (40 + (a + k)) = u.2.1 31 (40 + (a + k)) then 0 else dx_shl 1 (nI k)), nI (k + 1)))
    by_cases z : u.2.1 36 (a + k) = u.2.1 31 (a + k)
    · rw [if_pos z]
      by_cases y : u.2.1 36 (40 + (a + k)) = u.2.1 31 (40 + (a + k))
      · rw [if_pos y, if_pos ⟨z, y⟩]
      · rw [if_neg y, if_neg (fun q => y q.2)]
    · rw [if_neg z, if_neg (fun q => z q.1)]) (by
    show g_X10_pair_l205 F (nI a) (nI n) u _ (nI n) = _
    unfold g_X10_pair_l205
    rw [if_pos (nI_le (Nat.le_refl _) (by omega))]) F 0 (Nat.zero_le _) (by omega)
  unfold g_X10_pair_j200
  rw [show lp (fun (s : Int32 × Int32) => g_X10_pair_l205 F (nI a) (nI n) u s.1 s.2) F ((0 : Int32), (0 : Int32)) = _ from h, ob_i]
theorem m_prc {F : Nat} {a : Int32} {u : rg_U} (hz : ∀ i, 134 ≤ i → u.2.1 31 i = 0) (hF : 10000 < F) : ∃ v, lp (fun (s : Int32 × rg_U) => g_X10_pair_l117 F a s.1 s.2) F ((0 : Int32), u) = some v ∧ v.1 = u.1 ∧ ∀ j i, v.2.1 j i = if j = 36 ∧ i < 134 then u.2.1 31 i else u.2.1 j i := by
  refine lp_ex (body := fun (s : Int32 × rg_U) => g_X10_pair_l117 F a s.1 s.2) (P := fun k s => ∃ m, k + m = 134 ∧ s.1 = nI m ∧ s.2.1 = u.1 ∧ ∀ j i, s.2.2.1 j i = if j = 36 ∧ i < m then u.2.1 31 i else u.2.1 j i) (R := fun v => v.1 = u.1 ∧ ∀ j i, v.2.1 j i = if j = 36 ∧ i < 134 then u.2.1 31 i else u.2.1 j i) ?_ F 134 ((0 : Int32), u) (by omega) ⟨0, rfl, rfl, rfl, fun j i => by rw [if_neg (by omega)]⟩
  rintro k ⟨s1, s2⟩ ⟨m, hm, e1, e2, hv⟩
  dsimp only at e1 e2 hv
  subst e1
  unfold g_X10_pair_l117
  dsimp only
  by_cases q : m = 134
  · right
    subst q
    exact ⟨s2, if_pos (by decide), e2, hv⟩
  · left
    rw [if_neg (show ¬ (134 : Int32) ≤ nI m from nI_ge (a := m) (b := 134) (by omega) (by decide)), ck_t (inb_nI (by omega) (by decide)), ck_t (inb_nI (by omega) (by decide)), lt1_i, sA_nI (by omega), rA_nI (by omega), nI_1]
    refine ⟨_, k - 1, rfl, by omega, m + 1, by omega, rfl, e2, fun j i => ?_⟩
    rw [R_at, hv j i, hv 31 m, if_neg (show ¬ (31 = 36 ∧ m < m) by omega)]
    by_cases z : j = 36 ∧ i = m
    · rw [if_pos z, if_pos (show j = 36 ∧ i < m + 1 by omega), z.2]
    · rw [if_neg z]
      by_cases y : j = 36 ∧ i < m
      · rw [if_pos y, if_pos (show j = 36 ∧ i < m + 1 by omega)]
      · rw [if_neg y, if_neg (show ¬ (j = 36 ∧ i < m + 1) by omega)]
