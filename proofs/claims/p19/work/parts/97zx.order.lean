/-! the class: calls, inputs, draws; an order -/
def caddS (u : rg_U) (q C : Nat) (t p d : Int32) : rg_U := sF (rg_R (rg_R (rg_R u (q + 1) C t) (q + 2) C p) (q + 3) C d) q 3 (nI (C + 1))
def laddS (u : rg_U) (q L : Nat) (t g p s n : Int32) : rg_U := sF (rg_R (rg_R (rg_R (rg_R (rg_R u (q + 1) L t) (q + 2) L g) (q + 4) L p) (q + 5) L s) (q + 3) L n) q 5 (nI (L + 1))
section XQ
variable {F o T N p C L A0 W : Nat} {R : Nat → Row} {l : Nat → Nat} {m : Row} {u : rg_U} {x s n a b c e : Int32} {k : Int32 × Int32 × Int32}
theorem caddS_n {q j : Nat} {t p d : Int32} (h : j < q + 1 ∨ q + 3 < j) : (caddS u q C t p d).2.1 j = u.2.1 j := by
  unfold caddS
  rw [sF_A, R_n (by omega), R_n (by omega), R_n (by omega)]
theorem caddS_f {q i : Nat} {t p d : Int32} (h : i ≠ 100 * q + 3) : (caddS u q C t p d).1 i = u.1 i := sF_n h
theorem caddS_g {q : Nat} {t p d : Int32} : (caddS u q C t p d).2.2 = u.2.2 := rfl
theorem laddS_n {q j : Nat} {t g p s n : Int32} (h : j < q + 1 ∨ q + 5 < j) : (laddS u q L t g p s n).2.1 j = u.2.1 j := by
  unfold laddS
  rw [sF_A, R_n (by omega), R_n (by omega), R_n (by omega), R_n (by omega), R_n (by omega)]
theorem laddS_f {q i : Nat} {t g p s n : Int32} (h : i ≠ 100 * q + 5) : (laddS u q L t g p s n).1 i = u.1 i := sF_n h
theorem laddS_g {q : Nat} {t g p s n : Int32} : (laddS u q L t g p s n).2.2 = u.2.2 := rfl
theorem laddS_N {q : Nat} {t g p s n : Int32} : rF (laddS u q L t g p s n) q 5 = nI (L + 1) := sF_y
theorem MD_cadd {t p d : Int32} (h : MD u o T N R l m) : MD (caddS u (o + 24) C t p d) o T N R l m := MD_c h (caddS_f (by omega)) (caddS_f (by omega)) (fun j j1 j2 _ => caddS_n (by omega)) (fun j j1 j2 => caddS_n (by omega))
theorem MD_ladd {t g p s n : Int32} (h : MD u o T N R l m) : MD (laddS u (o + 6) L t g p s n) o T N R l m := MD_c h (laddS_f (by omega)) (laddS_f (by omega)) (fun j j1 j2 _ => laddS_n (by omega)) (fun j j1 j2 => laddS_n (by omega))
theorem MD_6 {i : Nat} {x : Int32} (h : MD u o T N R l m) (ho : 116 ≤ o) (hi : i < 100) : MD (sF u 6 i x) o T N R l m := MD_c h (sF_n (by omega)) (sF_n (by omega)) (fun _ _ _ _ => rfl) (fun _ _ _ => rfl)
theorem pf_17 {d : Nat} {num en : Int32} (h : MD u o T N R l m) (h10 : rF u o 10 = m 132) (h11 : rF u o 11 = -1) (hd : R T 121 = nI d) (hd2 : m 121 = nI d) (d8 : d ≤ 8) (hst : ∀ i, i < d → m (122 + i) = R T (122 + i)) (h120 : m 120 = R T 120 + 1) (hC : rF u (o + 24) 3 = nI C) (hC1 : C ≤ 100) (hF : 10000 < F) : ∃ v u', perfK F o (nI 17) a b c u = some ((mdo m 17 a b c num en).2.1, v) ∧ ((d < 8 ∧ C < 100 ∧ u' = caddS u (o + 24) C (nI T) a (nI d)) ∨ (¬ (d < 8 ∧ C < 100) ∧ u' = u)) ∧ ((mdo m 17 a b c num en).2.1 = 0 ↔ d < 8) ∧ PO u' v o T N R l m (mdo m 17 a b c num en) k := by
  unfold perfK
  rw [if_neg (by decide), if_neg (by decide), if_neg (by decide), if_neg (by decide), if_neg (by decide), if_neg (by decide), if_neg (by decide), if_neg (by decide), if_neg (by decide), if_neg (by decide), if_neg (by decide), if_neg (by decide), if_pos (by decide)]
  unfold g_X8_goDown
  have hT3 := h.2.1
  have hS : ∀ s, s ≤ T → SI u o R s := fun s hs => SI_c (h.2.2.1 s (by omega)) (fun _ _ => rfl) rfl rfl rfl (fun s' hs' => (Rx_le (by omega)).symm)
  rw [h.1, c_stackSize h.1 (by omega) (Nat.le_refl _) hS hF, ob_i, hd, show mdo m 17 a b c num en = (if m 121 = 8 then mtrp m 4 else (upd (upd (upd m (122 + tn (m 121)) (m 120)) 121 (m 121 + 1)) 120 a, 0, -1, -1)) from rfl, hd2]
  by_cases q : d < 8
  · have n8 : ¬ nI d = 8 := fun z => by
      have := nI_inj (b := 8) (by omega) (by omega) z
      omega
    rw [if_pos (show nI d < 8 from nI_lt (a := d) (b := 8) q (by decide)), if_neg n8, tnn (by omega), nI_1]
    have fin : ∀ u', MD u' o T N R l m → rF u' o 10 = m 132 → rF u' o 11 = -1 → ∃ v, ob (g_X7_stackUp F o u') (fun r9 => ob (g_X7_goOnAt F o a r9) (fun r14 => some ((0 : Int32), r14))) = some (0, v) ∧ PO u' v o T N R l m (upd (upd (upd m (122 + d) (m 120)) 121 (nI (d + 1))) 120 a, 0, -1, -1) k := fun u' h' h10' h11' => by
      rw [c_stackUp h'.1 h'.2.1, ob_i, c_goOnAt (u := rg_R u' (o + 33) (T + 1) (nI T)) h'.1 h'.2.1, ob_i]
      exact ⟨_, rfl, po_up h' h10' h11' hd q h120 hst⟩
    by_cases qC : C < 100
    · rw [c_calladd hC qC, ob_i]
      obtain ⟨v, e1, e2⟩ := fin (caddS u (o + 24) C (nI T) a (nI d)) (MD_cadd h) ((caddS_f (by omega)).trans h10) ((caddS_f (by omega)).trans h11)
      rw [show sF (rg_R (rg_R (rg_R u (o + 24 + 1) C (nI T)) (o + 24 + 2) C a) (o + 24 + 3) C (nI d)) (o + 24) 3 (nI (C + 1)) = caddS u (o + 24) C (nI T) a (nI d) from rfl, e1, ob_i]
      exact ⟨v, _, rfl, Or.inl ⟨q, qC, rfl⟩, ⟨fun _ => q, fun _ => rfl⟩, e2⟩
    · have eC : C = 100 := by omega
      rw [c_callfull (by rw [hC, eC]), ob_i]
      obtain ⟨v, e1, e2⟩ := fin u h h10 h11
      rw [e1, ob_i]
      exact ⟨v, _, rfl, Or.inr ⟨fun z => qC z.2, rfl⟩, ⟨fun _ => q, fun _ => rfl⟩, e2⟩
  · have e8 : d = 8 := by omega
    subst e8
    rw [if_neg (by decide), if_pos (by decide), ob_i]
    exact ⟨u, u, rfl, Or.inr ⟨fun z => q z.1, rfl⟩, ⟨fun z => absurd (show (4 : Int32) = 0 from z) (by decide), fun z => absurd z q⟩, po_trap h h11 (by decide)⟩
/-- what is taken from outside is put, and told to rest on its entry -/
theorem po_outside {w : rg_U} {g num en : Int32} (h : MD w o T N R l m) (h8 : N < 3800) (hp : p < 40) (h10 : rF w o 10 = m 132) (hL : rF w (o + 6) 5 = nI L) (hL8 : L < 800) : ∃ v, g_X7_putFromOutside F o (nI p) g num w = some v ∧ PO (laddS w (o + 6) L (nI T) g (-1) 2 num) v o T N R l m (mput m p 2 num, 0, en, nI p) (nI L, -1, -1) := by
  unfold g_X7_putFromOutside g_X3_addWhole
  have h' : MD (laddS w (o + 6) L (nI T) g (-1) 2 num) o T N R l m := MD_ladd h
  have h10' : rF (laddS w (o + 6) L (nI T) g (-1) 2 num) o 10 = m 132 := (laddS_f (by omega)).trans h10
  rw [h.1, c_logadd hL hL8, ob_i, ob_i, show sF (rg_R (rg_R (rg_R (rg_R (rg_R w (o + 6 + 1) L (nI T)) (o + 6 + 2) L g) (o + 6 + 4) L (-1)) (o + 6 + 5) L 2) (o + 6 + 3) L num) (o + 6) 5 (nI (L + 1)) = laddS w (o + 6) L (nI T) g (-1) 2 num from rfl, c_put h' h8 hp, ob_i]
  obtain ⟨N', a1, a2, a3, a4, a5, a6, a7⟩ := po_put (en := en) (e := -1) (a := -1) (b := -1) (s := 2) (n := num) h' h8 hp h10'
  generalize hs1 : sF (putS (laddS w (o + 6) L (nI T) g (-1) 2 num) o T N p 2 num (-1) (-1) (-1)) o 11 (if m p = 2 ∧ m (40 + p) = num then -1 else nI p) = s1 at *
  have hN' : N' = N + 1 := by
    rcases a7 with ⟨z1, z2⟩ | ⟨z1, -⟩
    · exact absurd z2 (nI_m1 (by omega))
    · exact z1
  subst hN'
  have e9 : rF s1 o 9 = nI T := a1.1
  have eL : rF s1 (o + 6) 5 = nI (L + 1) := (a2.2.2 _ (by omega)).trans laddS_N
  rw [e9, eL, nI_pred, c_rest (MD_N a1) h8, ob_i]
  refine ⟨_, rfl, N + 1, MD_c a1 (congrFun restS_f _) (congrFun restS_f _) (fun j j1 j2 j3 => restS_n (by omega)) (fun j j1 j2 => restS_n (by omega)), FS_t a2 (FS_rest rfl), a3, a4, a5, fun j i j1 j2 hi => ?_, Or.inr ⟨rfl, ?_, ?_, ?_, ?_, ?_, ?_⟩⟩
  · rw [← a6 j i j1 j2 hi]
    unfold restS
    rw [R_at, R_at, R_at, R_at, if_neg (by omega), if_neg (by omega), if_neg (by omega), if_neg (by omega)]
  · rcases a7 with ⟨z1, z2⟩ | ⟨-, z2, -⟩
    · omega
    · rw [restS_n (by omega)]; exact z2
  · unfold restS
    rw [R_n (by omega), R_n (by omega), R_n (by omega), show o + 19 = o + 12 + 7 from rfl, R_s, pk_us]
  · unfold restS
    rw [R_n (by omega), R_n (by omega), show o + 20 = o + 12 + 8 from rfl, R_s, pk_us]
  · unfold restS
    rw [R_n (by omega), show o + 21 = o + 12 + 9 from rfl, R_s, pk_us]
  · unfold restS
    rw [show o + 22 = o + 12 + 10 from rfl, R_s, pk_us]
  · rcases a7 with ⟨z1, z2⟩ | ⟨-, -, -, -, -, -, z2⟩
    · omega
    · rw [restS_n (by omega)]; exact z2
theorem pf_19 {en : Int32} (h : MD u o T N R l m) (h8 : N < 3800) (h10 : rF u o 10 = m 132) (hv : ¬ g_X10_isFine (nI 19) a b c = 0) (ho : 116 ≤ o) (hL : rF u (o + 6) 5 = nI L) (hL8 : L < 800) (hO : okO9 u A0 (W + 1)) : ∃ v, perfK F o (nI 19) a b c u = some (0, v) ∧ PO (laddS (sF (sF u 6 1 (nI ((A0 + 1) % 900))) 6 2 (nI W)) (o + 6) L (nI T) 0 (-1) 2 (wt9 u A0 0)) v o T N R l m (mdo m 19 a b c (wt9 u A0 0) en) (nI L, -1, -1) := by
  obtain ⟨fa, fb, fc⟩ := fine_abc (k := 19) (by decide) hv
  obtain ⟨pa, hpa, rfl⟩ := reg_of (x := a) fa
  unfold perfK
  rw [if_neg (by decide), if_neg (by decide), if_neg (by decide), if_neg (by decide), if_neg (by decide), if_neg (by decide), if_neg (by decide), if_neg (by decide), if_neg (by decide), if_neg (by decide), if_neg (by decide), if_neg (by decide), if_neg (by decide), if_neg (by decide), if_pos (by decide)]
  obtain ⟨w, e1, e2, -, -⟩ := c_takeFirst (F := F) hO
  rw [e1, ob_i]
  dsimp only
  subst e2
  have h' : MD (sF (sF u 6 1 (nI ((A0 + 1) % 900))) 6 2 (nI W)) o T N R l m := MD_6 (MD_6 h ho (by omega)) ho (by omega)
  obtain ⟨v, e3, e4⟩ := po_outside (F := F) (g := 0) (num := wt9 u A0 0) (en := en) h' h8 (show pa < 40 by omega) (by show (sF (sF u 6 1 _) 6 2 _).1 (100 * o + 10) = _; rw [sF_n (by omega), sF_n (by omega)]; exact h10) (by show (sF (sF u 6 1 _) 6 2 _).1 (100 * (o + 6) + 5) = _; rw [sF_n (by omega), sF_n (by omega)]; exact hL) hL8
  rw [e3, ob_i, show mdo m 19 (nI pa) b c (wt9 u A0 0) en = (mput m pa 2 (wt9 u A0 0), 0, en, nI pa) by show (mput m (tn (nI pa)) 2 (wt9 u A0 0), (0 : Int32), en, nI pa) = _; rw [tnn (by omega)]]
  exact ⟨v, rfl, e4⟩
theorem pf_20 {en : Int32} (h : MD u o T N R l m) (h8 : N < 3800) (h10 : rF u o 10 = m 132) (hv : ¬ g_X10_isFine (nI 20) a b c = 0) (ho : 116 ≤ o) (hL : rF u (o + 6) 5 = nI L) (hL8 : L < 800) : ∃ v, perfK F o (nI 20) a b c u = some (0, v) ∧ PO (laddS (sF u 6 3 (drawX (rF u 6 3))) (o + 6) L (nI T) 1 (-1) 2 (drawN (rF u 6 3) b)) v o T N R l m (mdo m 20 a b c (drawN (rF u 6 3) b) en) (nI L, -1, -1) := by
  obtain ⟨fa, fb, fc⟩ := fine_abc (k := 20) (by decide) hv
  obtain ⟨pa, hpa, rfl⟩ := reg_of (x := a) fa
  have fb' : ¬ g_X10_isIn b 1 1000 = 0 := by rw [← ft4]; exact fb
  obtain ⟨B, eB, hB1, hB2⟩ := in_nat fb' (by decide)
  have hB : 1 ≤ B := by have e1 : (1 : Int32).toInt = 1 := rfl; omega
  have hB3 : B ≤ 1000 := by have e1 : (1000 : Int32).toInt = 1000 := rfl; omega
  unfold perfK
  rw [if_neg (by decide), if_neg (by decide), if_neg (by decide), if_neg (by decide), if_neg (by decide), if_neg (by decide), if_neg (by decide), if_neg (by decide), if_neg (by decide), if_neg (by decide), if_neg (by decide), if_neg (by decide), if_neg (by decide), if_neg (by decide), if_neg (by decide), if_pos (by decide)]
  have ed : g_X4_draw F b u = some (drawN (rF u 6 3) b, sF u 6 3 (drawX (rF u 6 3))) := by
    unfold g_X4_draw
    rw [lt1_i, if_pos (by rw [eB]; exact nI_le (a := 1) hB (by omega)), ck_t (by rw [eB]; exact nI_ne0 (by omega) (by omega)), sF_y]
    rfl
  rw [ed, ob_i]
  dsimp only
  have h' : MD (sF u 6 3 (drawX (rF u 6 3))) o T N R l m := MD_6 h ho (by omega)
  obtain ⟨v, e3, e4⟩ := po_outside (F := F) (g := 1) (num := drawN (rF u 6 3) b) (en := en) h' h8 (show pa < 40 by omega) (by show (sF u 6 3 _).1 (100 * o + 10) = _; rw [sF_n (by omega)]; exact h10) (by show (sF u 6 3 _).1 (100 * (o + 6) + 5) = _; rw [sF_n (by omega)]; exact hL) hL8
  rw [e3, ob_i, show mdo m 20 (nI pa) b c (drawN (rF u 6 3) b) en = (mput m pa 2 (drawN (rF u 6 3) b), 0, en, nI pa) by show (mput m (tn (nI pa)) 2 (drawN (rF u 6 3) b), (0 : Int32), en, nI pa) = _; rw [tnn (by omega)]]
  exact ⟨v, rfl, e4⟩
end XQ
