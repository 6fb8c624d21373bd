section W_63
-- 97zw.order
/-! the class: what an order does -/
def CHG (v : rg_U) (o : Nat) (m m' : Row) : Prop := (rF v o 11 = -1 ∧ ∀ p, p < 40 → m' (80 + p) = m (80 + p)) ∨ ∃ p, p < 40 ∧ rF v o 11 = nI p ∧ m' (80 + p) = m (80 + p) + 1 ∧ ∀ p', p' < 40 → p' ≠ p → m' (80 + p') = m (80 + p')
/-- what is known of the put of a step -/
def PX (u v : rg_U) (o T N N' : Nat) (e a b q : Int32) : Prop := (∀ j n, o + 13 ≤ j → j ≤ o + 22 → n < N → v.2.1 j n = u.2.1 j n) ∧ ((N' = N ∧ q = -1) ∨ (N' = N + 1 ∧ q = v.2.1 (o + 14) N ∧ v.2.1 (o + 19) N = nI T ∧ v.2.1 (o + 20) N = e ∧ v.2.1 (o + 21) N = a ∧ v.2.1 (o + 22) N = b))
/-- u with the row m behind T comes to v with the row z.1; what is looked at is k -/
def PO (u v : rg_U) (o T N : Nat) (R : Nat → Row) (l : Nat → Nat) (m : Row) (z : MSt) (k : Int32 × Int32 × Int32) : Prop := ∃ N', MD v o T N' R l z.1 ∧ FS u v o ∧ (z.2.1 = 0 → rF v o 10 = z.1 132) ∧ (¬ z.2.1 = 0 → z.1 132 = 10 + z.2.1) ∧ CHG v o m z.1 ∧ PX u v o T N N' k.1 k.2.1 k.2.2 z.2.2.2
section XO
variable {F o T N p : Nat} {R : Nat → Row} {l : Nat → Nat} {m : Row} {u : rg_U} {x s n a b c e : Int32} {k : Int32 × Int32 × Int32}
theorem PX_no {v : rg_U} {x y z : Int32} (h : ∀ j, o + 13 ≤ j → j ≤ o + 22 → v.2.1 j = u.2.1 j) : PX u v o T N N x y z (-1) := ⟨fun j n j1 j2 _ => by rw [h j j1 j2], Or.inl ⟨rfl, rfl⟩⟩
theorem po_trap {t : Int32} (h : MD u o T N R l m) (h11 : rF u o 11 = -1) (ht : ¬ t = 0) : PO u u o T N R l m (mtrp m t) k := ⟨N, MD_hi h _, FS_r, fun z => absurd z ht, fun _ => (show upd m 132 (10 + t) 132 = 10 + t from pk_us), Or.inl ⟨h11, fun p hp => pk_un (by omega)⟩, PX_no fun _ _ _ => rfl⟩
theorem po_end (h : MD u o T N R l m) (h11 : rF u o 11 = -1) : PO u (sF u o 10 2) o T N R l m (upd m 132 2, 0, -1, -1) k := by
  refine ⟨N, MD_hi (MD_c h (sF_n (by omega)) (sF_n (by omega)) (fun _ _ _ _ => rfl) (fun _ _ _ => rfl)) _, FS_10, fun _ => by dsimp only; rw [sF_y, pk_us], fun z => absurd rfl z, Or.inl ⟨?_, fun p hp => pk_un (by omega)⟩, PX_no fun _ _ _ => rfl⟩
  rw [← h11]
  exact sF_n (by omega)
theorem po_goOn (h : MD u o T N R l m) (h10 : rF u o 10 = m 132) (h11 : rF u o 11 = -1) : PO u (rg_R u (o + 30) (T + 1) x) o T N R l m (upd m 120 x, 0, -1, -1) k := ⟨N, MD_goOn h, FS_R FS_r (by omega), fun _ => by show rF u o 10 = _; dsimp only; rw [h10, pk_un (by decide)], fun z => absurd rfl z, Or.inl ⟨h11, fun p hp => pk_un (by omega)⟩, PX_no fun j j1 j2 => R_n (by omega)⟩
theorem po_no (h : MD u o T N R l m) (h10 : rF u o 10 = m 132) (h11 : rF u o 11 = -1) : PO u u o T N R l m (m, 0, -1, -1) k := ⟨N, h, FS_r, fun _ => h10, fun z => absurd rfl z, Or.inl ⟨h11, fun p hp => rfl⟩, PX_no fun _ _ _ => rfl⟩
theorem FS_R2 {v : rg_U} {j i : Nat} {x : Int32} (h : FS u v o) (hj : o + 12 ≤ j ∧ (j ≤ o + 23 ∨ (o + 30 ≤ j ∧ j ≤ o + 33))) : FS u (rg_R v j i x) o := FS_t h (FS_R FS_r hj)
theorem po_out (h : MD u o T N R l m) (h10 : rF u o 10 = m 132) (h11 : rF u o 11 = -1) : PO u (rg_R (rg_R u (o + 31) (T + 1) x) (o + 32) (T + 1) s) o T N R l m (upd (upd m 130 x) 131 s, 0, -1, -1) k := ⟨N, MD_out h, FS_R2 (FS_R FS_r (by omega)) (by omega), fun _ => by show rF u o 10 = _; dsimp only; rw [h10, pk_un (by decide), pk_un (by decide)], fun z => absurd rfl z, Or.inl ⟨h11, fun p hp => by dsimp only; rw [pk_un (by omega), pk_un (by omega)]⟩, PX_no fun j j1 j2 => by rw [R_n (by omega), R_n (by omega)]⟩
theorem po_up {d : Nat} (h : MD u o T N R l m) (h10 : rF u o 10 = m 132) (h11 : rF u o 11 = -1) (hd : R T 121 = nI d) (d8 : d < 8) (h120 : m 120 = R T 120 + 1) (hst : ∀ i, i < d → m (122 + i) = R T (122 + i)) : PO u (rg_R (rg_R u (o + 33) (T + 1) (nI T)) (o + 30) (T + 1) x) o T N R l m (upd (upd (upd m (122 + d) (m 120)) 121 (nI (d + 1))) 120 x, 0, -1, -1) k := by
  have h1 := MD_33 h (SI_up h.2.2.1 hd d8 h120 hst) (fun p hp => by rw [pk_un (by omega), pk_un (by omega)])
  exact ⟨N, MD_goOn h1, FS_R2 (FS_R FS_r (by omega)) (by omega), fun _ => by show rF u o 10 = _; dsimp only; rw [h10, pk_un (by decide), pk_un (by decide), pk_un (by omega)], fun z => absurd rfl z, Or.inl ⟨h11, fun p hp => by dsimp only; rw [pk_un (by omega), pk_un (by omega), pk_un (by omega)]⟩, PX_no fun j j1 j2 => by rw [R_n (by omega), R_n (by omega)]⟩
theorem po_down {d s : Nat} (h : MD u o T N R l m) (h10 : rF u o 10 = m 132) (h11 : rF u o 11 = -1) (hs : s < T) (d8 : d < 8) (hd : R s 121 = nI d) (hst : ∀ i, i < d → R s (122 + i) = m (122 + i)) : PO u (rg_R (rg_R u (o + 30) (T + 1) x) (o + 33) (T + 1) (u.2.1 (o + 33) s)) o T N R l m (upd (upd m 121 (nI d)) 120 x, 0, -1, -1) k := by
  have h0 := MD_goOn (x := x) h
  have h1 := MD_33 h0 (SI_down h0.2.2.1 hs d8 hd (fun i hi => by rw [pk_un (by omega)]; exact hst i hi)) (fun p hp => pk_un (by omega))
  rw [R_n (show o + 33 ≠ o + 30 by omega)] at h1
  have e : upd (upd m 120 x) 121 (nI d) = upd (upd m 121 (nI d)) 120 x := by
    funext i
    unfold upd
    by_cases q : i = 121
    · subst q; rfl
    · rw [if_neg q, if_neg q]
  rw [e] at h1
  exact ⟨N, h1, FS_R2 (FS_R FS_r (by omega)) (by omega), fun _ => by show rF u o 10 = _; dsimp only; rw [h10, pk_un (by decide), pk_un (by decide)], fun z => absurd rfl z, Or.inl ⟨h11, fun p hp => by dsimp only; rw [pk_un (by omega), pk_un (by omega)]⟩, PX_no fun j j1 j2 => by rw [R_n (by omega), R_n (by omega)]⟩
theorem putS_19 : (putS u o T N p s n e a b).2.1 (o + 19) N = nI T := by
  unfold putS restS
  rw [R_n (by omega), R_n (by omega), R_n (by omega), show o + 19 = o + 12 + 7 from rfl, R_s, pk_us]
theorem putS_20 : (putS u o T N p s n e a b).2.1 (o + 20) N = e := by
  unfold putS restS
  rw [R_n (by omega), R_n (by omega), show o + 20 = o + 12 + 8 from rfl, R_s, pk_us]
theorem putS_21 : (putS u o T N p s n e a b).2.1 (o + 21) N = a := by
  unfold putS restS
  rw [R_n (by omega), show o + 21 = o + 12 + 9 from rfl, R_s, pk_us]
theorem putS_22 : (putS u o T N p s n e a b).2.1 (o + 22) N = b := by
  unfold putS restS
  rw [show o + 22 = o + 12 + 10 from rfl, R_s, pk_us]
theorem putS_14 : (putS u o T N p s n e a b).2.1 (o + 14) N = nI p := by
  unfold putS
  rw [restS_n (by omega), show o + 14 = o + 12 + 2 from rfl, addS_2, pk_us]
theorem putS_old {j i : Nat} (j1 : o + 13 ≤ j) (j2 : j ≤ o + 22) (hi : i < N) : (putS u o T N p s n e a b).2.1 j i = u.2.1 j i := by
  unfold putS restS addS
  simp only [R_at, sF_A]
  rw [if_neg (by omega), if_neg (by omega), if_neg (by omega), if_neg (by omega), if_neg (by omega), if_neg (by omega), if_neg (by omega), if_neg (by omega), if_neg (by omega), if_neg (by omega), if_neg (by omega)]
theorem CHG_put {v : rg_U} (hp : p < 40) (h : rF v o 11 = if m p = s ∧ m (40 + p) = n then -1 else nI p) : CHG v o m (mput m p s n) := by
  have e : ∀ p', p' < 40 → mput m p s n (80 + p') = if p' = p then m (80 + p) + (if m p = s ∧ m (40 + p) = n then 0 else 1) else m (80 + p') := fun p' hp' => by
    unfold mput
    rw [pk_un (by omega), pk_un (by omega)]
    by_cases q : p' = p
    · rw [if_pos q, q, pk_us]
    · rw [if_neg q, pk_un (by omega)]
  by_cases q : m p = s ∧ m (40 + p) = n
  · rw [if_pos q] at h
    refine Or.inl ⟨h, fun p' hp' => ?_⟩
    rw [e p' hp', if_pos q]
    by_cases z : p' = p
    · rw [if_pos z, z, Int32.add_zero]
    · rw [if_neg z]
  · rw [if_neg q] at h
    refine Or.inr ⟨p, hp, h, ?_, fun p' hp' z => ?_⟩
    · rw [e p hp, if_pos rfl, if_neg q]
    · rw [e p' hp', if_neg z]
theorem putS_10 : rF (putS u o T N p s n e a b) o 10 = rF u o 10 := by
  show (addS u (o + 12) N p _ s n _ _).1 (100 * o + 10) = _
  rw [addS_f (by omega)]
  rfl
theorem po_put {en : Int32} (h : MD u o T N R l m) (h8 : N < 3800) (hp : p < 40) (h10 : rF u o 10 = m 132) : PO u (sF (putS u o T N p s n e a b) o 11 (if m p = s ∧ m (40 + p) = n then -1 else nI p)) o T N R l m (mput m p s n, 0, en, nI p) (e, a, b) := by
  refine ⟨N + 1, MD_c (MD_put h h8 hp) (sF_n (by omega)) (sF_n (by omega)) (fun _ _ _ _ => rfl) (fun _ _ _ => rfl), FS_t FS_put FS_11, fun _ => ?_, fun z => absurd rfl z, CHG_put hp sF_y, fun j i j1 j2 hi => putS_old j1 j2 hi, Or.inr ⟨rfl, putS_14.symm, putS_19, putS_20, putS_21, putS_22⟩⟩
  show (sF (putS u o T N p s n e a b) o 11 _).1 (100 * o + 10) = _
  rw [sF_n (by omega)]
  exact putS_10.trans (h10.trans (mput_h2 hp (by omega)).symm)
theorem po_put2 {en q : Int32} {z : MSt} (h : MD u o T N R l m) (h8 : N < 3800) (hp : p < 40) (h10 : rF u o 10 = m 132) (hz : z = (mput m p s n, 0, en, nI p)) : ∃ v, g_X7_putByStep F o (nI p) s n a b u = some v ∧ z.2.1 = 0 ∧ PO u v o T N R l m z (-1, a, b) := by
  subst hz
  exact ⟨_, c_put h h8 hp, rfl, po_put h h8 hp h10⟩
def perfK (F : Nat) (o0 : Nat) (r1 r3 r5 r7 : Int32) (u : rg_U) : Option (Int32 × rg_U) :=
  if r1 = (-1) then (some (5, u)) else if r1 = 0 then (lt1 (sF u o0 10 2) (fun u11 => some (0, u11))) else if r1 = 1 then (ob (g_X7_putByStep F o0 r3 2 r5 (-1) (-1) u) (fun r17 => some (0, r17))) else if r1 = 2 then (ob (g_X7_putByStep F o0 r3 1 r5 (-1) (-1) u) (fun r23 => some (0, r23))) else if r1 = 3 then (ob (g_X6_latestOf F (o0 + 12) r5 u) (fun r29 => ob (g_X8_copy F o0 r3 r29 u) (fun r31 => some (0, r31)))) else if r1 = 10 then (ob (g_X6_latestOf F (o0 + 12) r5 u) (fun r37 => ob (g_X6_latestOf F (o0 + 12) r7 u) (fun r39 => ob (g_X8_compare F o0 r3 r37 r39 u) (fun r41 => some (0, r41))))) else if r1 = 11 then (ob (g_X6_latestOf F (o0 + 12) r5 u) (fun r47 => ob (g_X8_combine F o0 r3 r47 (-1) r1 u) (fun r49 => some (r49.1, r49.2)))) else if r1 = 12 then (ob (g_X6_latestOf F (o0 + 12) r5 u) (fun r55 => ob (g_X6_latestOf F (o0 + 12) r7 u) (fun r57 => ob (g_X8_combine F o0 r3 r55 r57 r1 u) (fun r59 => some (r59.1, r59.2))))) else if r1 = 13 then (ob (g_X6_latestOf F (o0 + 12) r5 u) (fun r65 => ob (g_X8_fromCell F o0 r3 r65 u) (fun r67 => some (r67.1, r67.2)))) else if r1 = 14 then (ob (g_X6_latestOf F (o0 + 12) r3 u) (fun r73 => ob (g_X6_latestOf F (o0 + 12) r5 u) (fun r75 => ob (g_X8_toCell F o0 r73 r75 u) (fun r77 => some (r77.1, r77.2))))) else if r1 = 15 then (ob (g_X7_goOnAt F o0 r3 u) (fun r83 => some (0, r83))) else if r1 = 16 then (ob (g_X6_latestOf F (o0 + 12) r3 u) (fun r89 => ob (g_X8_goOnIf F o0 r89 r5 u) (fun r91 => some (r91.1, r91.2)))) else if r1 = 17 then (ob (g_X8_goDown F o0 r3 u) (fun r97 => some (r97.1, r97.2))) else if r1 = 18 then (ob (g_X8_goUp F o0 u) (fun r103 => some (0, r103))) else if r1 = 19 then (ob (g_X4_takeFirst F u) (fun r109 => ob (g_X7_putFromOutside F o0 r3 0 r109.1 r109.2) (fun r114 => some (0, r114)))) else if r1 = 20 then (ob (g_X4_draw F r5 u) (fun r120 => ob (g_X7_putFromOutside F o0 r3 1 r120.1 r120.2) (fun r125 => some (0, r125)))) else if r1 = 21 then (ob (g_X6_latestOf F (o0 + 12) r3 u) (fun r131 => ob (g_X8_putOut F o0 r131 u) (fun r133 => some (0, r133)))) else if r1 = 22 then (ob (g_X7_putByStep F o0 r3 0 0 (-1) (-1) u) (fun r139 => some (0, r139))) else (g_X8_perform_j405 F o0 r1 r3 r5 r7 u)
/-- the program of the run in which the class's is -/
def PG (u : rg_U) (o : Nat) (P : Prg) : Prop := ∀ k, k < 64 → u.2.1 (o + 2) k = P.1 k ∧ u.2.1 (o + 3) k = P.2.1 k ∧ u.2.1 (o + 4) k = P.2.2.1 k ∧ u.2.1 (o + 5) k = P.2.2.2 k
theorem x5_kind {P : Prg} {cn : Nat} (h : PG u o P) (hc : cn ≤ 64) : g_X5_kindAt F (o + 1) (nI cn) u = some (kindOf P (nI cn)) := by
  unfold g_X5_kindAt kindOf
  by_cases q : cn < 64
  · rw [if_neg (ipl_nI q), ck_t (inb_nI q (by decide)), rA_nI (by omega), if_pos (show nI cn < 64 from nI_lt (a := cn) (b := 64) q (by decide)), tnn (by omega), show o + 1 + 1 = o + 2 from rfl, (h cn q).1]
  · have e : cn = 64 := by omega
    subst e
    rw [if_pos (by decide), if_neg (by decide)]
theorem x8_perf {P : Prg} {cn : Nat} (h : PG u o P) (hc : cn < 64) : g_X8_perform F o (nI cn) u = perfK F o (P.1 cn) (P.2.1 cn) (P.2.2.1 cn) (P.2.2.2 cn) u := by
  have h1 : g_X5_kindAt F (o + 1) (nI cn) u = some (P.1 cn) := by
    rw [x5_kind h (by omega)]
    unfold kindOf
    rw [if_pos (show nI cn < 64 from nI_lt (a := cn) (b := 64) hc (by decide)), tnn (by omega)]
  have h2 : g_X5_firstAt F (o + 1) (nI cn) u = some (P.2.1 cn) := by
    unfold g_X5_firstAt
    rw [if_neg (ipl_nI hc), ck_t (inb_nI hc (by decide)), rA_nI (by omega), show o + 1 + 2 = o + 3 from rfl, (h cn hc).2.1]
  have h3 : g_X5_secondAt F (o + 1) (nI cn) u = some (P.2.2.1 cn) := by
    unfold g_X5_secondAt
    rw [if_neg (ipl_nI hc), ck_t (inb_nI hc (by decide)), rA_nI (by omega), show o + 1 + 3 = o + 4 from rfl, (h cn hc).2.2.1]
  have h4 : g_X5_thirdAt F (o + 1) (nI cn) u = some (P.2.2.2 cn) := by
    unfold g_X5_thirdAt
    rw [if_neg (ipl_nI hc), ck_t (inb_nI hc (by decide)), rA_nI (by omega), show o + 1 + 4 = o + 5 from rfl, (h cn hc).2.2.2]
  unfold g_X8_perform
  rw [h1, ob_i, h2, ob_i, h3, ob_i, h4, ob_i]
  rfl
theorem x8_out {cn : Nat} (hc : ¬ cn < 64) (h64 : cn ≤ 64) : g_X8_perform F o (nI cn) u = some (5, u) := by
  have e : cn = 64 := by omega
  subst e
  unfold g_X8_perform g_X5_kindAt g_X5_firstAt g_X5_secondAt g_X5_thirdAt
  rw [if_pos (by decide), if_pos (by decide), if_pos (by decide), if_pos (by decide), ob_i, ob_i, ob_i, ob_i, if_pos rfl]
theorem pf_1 {num en : Int32} (h : MD u o T N R l m) (h8 : N < 3800) (h10 : rF u o 10 = m 132) (h11 : rF u o 11 = -1) (hv : ¬ g_X10_isFine (nI 1) a b c = 0) : ∃ v, perfK F o (nI 1) a b c u = some ((mdo m 1 a b c num en).2.1, v) ∧ PO u v o T N R l m (mdo m 1 a b c num en) (-1, -1, -1) := by
  obtain ⟨fa, fb, fc⟩ := fine_abc (k := 1) (by decide) hv
  unfold perfK
  rw [if_neg (by decide), if_neg (by decide), if_pos (by decide)]
  obtain ⟨pa, hpa, rfl⟩ := reg_of (x := a) fa
  rw [c_put h h8 (by omega), ob_i]
  exact ⟨_, rfl, by rw [show mdo m 1 (nI pa) b c num en = (mput m pa 2 b, 0, -1, nI pa) by show mgiv m (tn (nI pa)) 2 b = _; rw [tnn (by omega)]; rfl]; exact po_put h h8 (by omega) h10⟩
theorem pf_2 {num en : Int32} (h : MD u o T N R l m) (h8 : N < 3800) (h10 : rF u o 10 = m 132) (h11 : rF u o 11 = -1) (hv : ¬ g_X10_isFine (nI 2) a b c = 0) : ∃ v, perfK F o (nI 2) a b c u = some ((mdo m 2 a b c num en).2.1, v) ∧ PO u v o T N R l m (mdo m 2 a b c num en) (-1, -1, -1) := by
  obtain ⟨fa, fb, fc⟩ := fine_abc (k := 2) (by decide) hv
  unfold perfK
  rw [if_neg (by decide), if_neg (by decide), if_neg (by decide), if_pos (by decide)]
  obtain ⟨pa, hpa, rfl⟩ := reg_of (x := a) fa
  rw [c_put h h8 (by omega), ob_i]
  exact ⟨_, rfl, by rw [show mdo m 2 (nI pa) b c num en = (mput m pa 1 b, 0, -1, nI pa) by show mgiv m (tn (nI pa)) 1 b = _; rw [tnn (by omega)]; rfl]; exact po_put h h8 (by omega) h10⟩
theorem pf_22 {num en : Int32} (h : MD u o T N R l m) (h8 : N < 3800) (h10 : rF u o 10 = m 132) (h11 : rF u o 11 = -1) (hv : ¬ g_X10_isFine (nI 22) a b c = 0) : ∃ v, perfK F o (nI 22) a b c u = some ((mdo m 22 a b c num en).2.1, v) ∧ PO u v o T N R l m (mdo m 22 a b c num en) (-1, -1, -1) := by
  obtain ⟨fa, fb, fc⟩ := fine_abc (k := 22) (by decide) hv
  unfold perfK
  rw [if_neg (by decide), if_neg (by decide), if_neg (by decide), if_neg (by decide), if_neg (by decide), if_neg (by decide), if_neg (by decide), if_neg (by decide), if_neg (by decide), if_neg (by decide), if_neg (by decide), if_neg (by decide), if_neg (by decide), if_neg (by decide), if_neg (by decide), if_neg (by decide), if_neg (by decide), if_pos (by decide)]
  obtain ⟨pa, hpa, rfl⟩ := reg_of (x := a) fa
  rw [c_put h h8 (by omega), ob_i]
  exact ⟨_, rfl, by rw [show mdo m 22 (nI pa) b c num en = (mput m pa 0 0, 0, -1, nI pa) by show mgiv m (tn (nI pa)) 0 0 = _; rw [tnn (by omega)]; rfl]; exact po_put h h8 (by omega) h10⟩
theorem pf_0 {num en : Int32} (h : MD u o T N R l m) (h8 : N < 3800) (h10 : rF u o 10 = m 132) (h11 : rF u o 11 = -1) (hv : ¬ g_X10_isFine (nI 0) a b c = 0) : ∃ v, perfK F o (nI 0) a b c u = some ((mdo m 0 a b c num en).2.1, v) ∧ PO u v o T N R l m (mdo m 0 a b c num en) (-1, -1, -1) := by
  obtain ⟨fa, fb, fc⟩ := fine_abc (k := 0) (by decide) hv
  unfold perfK
  rw [if_neg (by decide), if_pos (by decide)]
  exact ⟨_, rfl, po_end h h11⟩
theorem pf_3 {num en : Int32} (h : MD u o T N R l m) (h8 : N < 3800) (h10 : rF u o 10 = m 132) (h11 : rF u o 11 = -1) (hv : ¬ g_X10_isFine (nI 3) a b c = 0) : ∃ v, perfK F o (nI 3) a b c u = some ((mdo m 3 a b c num en).2.1, v) ∧ PO u v o T N R l m (mdo m 3 a b c num en) (-1, lat (u.2.1 (o + 14)) (tn b) N, -1) := by
  obtain ⟨fa, fb, fc⟩ := fine_abc (k := 3) (by decide) hv
  unfold perfK
  rw [if_neg (by decide), if_neg (by decide), if_neg (by decide), if_neg (by decide), if_pos (by decide)]
  obtain ⟨pa, hpa, rfl⟩ := reg_of (x := a) fa
  obtain ⟨pb, hpb, rfl⟩ := reg_of (x := b) fb
  rw [MD_latest h (by omega), ob_i]
  unfold g_X8_copy
  rw [MD_sort h (by omega), ob_i, MD_number h (by omega), ob_i, c_put h h8 (by omega), ob_i, ob_i, show mdo m 3 (nI pa) (nI pb) c num en = (mput m pa (m pb) (m (40 + pb)), 0, -1, nI pa) by show mgiv m (tn (nI pa)) (m (tn (nI pb))) (m (40 + tn (nI pb))) = _; rw [tnn (by omega), tnn (by omega)]; rfl, tnn (by omega)]
  exact ⟨_, rfl, po_put h h8 (by omega) h10⟩
theorem pf_10 {num en : Int32} (h : MD u o T N R l m) (h8 : N < 3800) (h10 : rF u o 10 = m 132) (h11 : rF u o 11 = -1) (hv : ¬ g_X10_isFine (nI 10) a b c = 0) : ∃ v, perfK F o (nI 10) a b c u = some ((mdo m 10 a b c num en).2.1, v) ∧ PO u v o T N R l m (mdo m 10 a b c num en) (-1, lat (u.2.1 (o + 14)) (tn b) N, lat (u.2.1 (o + 14)) (tn c) N) := by
  obtain ⟨fa, fb, fc⟩ := fine_abc (k := 10) (by decide) hv
  unfold perfK
  rw [if_neg (by decide), if_neg (by decide), if_neg (by decide), if_neg (by decide), if_neg (by decide), if_pos (by decide)]
  obtain ⟨pa, hpa, rfl⟩ := reg_of (x := a) fa
  obtain ⟨pb, hpb, rfl⟩ := reg_of (x := b) fb
  obtain ⟨pc, hpc, rfl⟩ := reg_of (x := c) fc
  rw [MD_latest h (by omega), ob_i, MD_latest h (by omega), ob_i]
  unfold g_X8_compare g_X8_compare_j39
  rw [MD_sort h (by omega), ob_i, MD_number h (by omega), ob_i, MD_value h (by omega), ob_i, show mdo m 10 (nI pa) (nI pb) (nI pc) num en = (mput m pa 1 (if m pb = m pc ∧ m (40 + pb) = m (40 + pc) then 1 else 0), 0, -1, nI pa) by show mgiv m (tn (nI pa)) 1 (if m (tn (nI pb)) = m (tn (nI pc)) ∧ m (40 + tn (nI pb)) = m (40 + tn (nI pc)) then 1 else 0) = _; rw [tnn (by omega), tnn (by omega), tnn (by omega)]; rfl, tnn (by omega), tnn (by omega)]
  by_cases q : m pb = m pc ∧ m (40 + pb) = m (40 + pc)
  · rw [if_pos q, if_neg (by decide), c_put h h8 (by omega), ob_i, ob_i]
    exact ⟨_, rfl, po_put h h8 (by omega) h10⟩
  · rw [if_neg q, if_pos rfl, c_put h h8 (by omega), ob_i, ob_i]
    exact ⟨_, rfl, po_put h h8 (by omega) h10⟩
theorem pf_11 {num en : Int32} (h : MD u o T N R l m) (h8 : N < 3800) (h10 : rF u o 10 = m 132) (h11 : rF u o 11 = -1) (hv : ¬ g_X10_isFine (nI 11) a b c = 0) : ∃ v, perfK F o (nI 11) a b c u = some ((mdo m 11 a b c num en).2.1, v) ∧ PO u v o T N R l m (mdo m 11 a b c num en) (-1, lat (u.2.1 (o + 14)) (tn b) N, -1) := by
  obtain ⟨fa, fb, fc⟩ := fine_abc (k := 11) (by decide) hv
  unfold perfK
  rw [if_neg (by decide), if_neg (by decide), if_neg (by decide), if_neg (by decide), if_neg (by decide), if_neg (by decide), if_pos (by decide)]
  obtain ⟨pa, hpa, rfl⟩ := reg_of (x := a) fa
  obtain ⟨pb, hpb, rfl⟩ := reg_of (x := b) fb
  rw [MD_latest h (by omega), ob_i]
  unfold g_X8_combine g_X8_combine_j33 g_X8_combine_j68
  rw [MD_sort h (by omega), ob_i, show mdo m 11 (nI pa) (nI pb) c num en = (if m pb = 1 then mgiv m pa 1 (1 - m (40 + pb)) else mtrp m 1) by show (if m (tn (nI pb)) = 1 then mgiv m (tn (nI pa)) 1 (1 - m (40 + tn (nI pb))) else mtrp m 1) = _; rw [tnn (by omega), tnn (by omega)], tnn (by omega)]
  by_cases q : m pb = 1
  · rw [if_pos q, if_pos q, if_neg (by decide), MD_number h (by omega), ob_i, if_pos (by decide), c_put h h8 (by omega), ob_i, ob_i]
    exact ⟨_, rfl, po_put h h8 (by omega) h10⟩
  · rw [if_neg q, if_neg q, ob_i]
    exact ⟨_, rfl, po_trap h h11 (by decide)⟩
theorem pf_12 {num en : Int32} (h : MD u o T N R l m) (h8 : N < 3800) (h10 : rF u o 10 = m 132) (h11 : rF u o 11 = -1) (hv : ¬ g_X10_isFine (nI 12) a b c = 0) : ∃ v, perfK F o (nI 12) a b c u = some ((mdo m 12 a b c num en).2.1, v) ∧ PO u v o T N R l m (mdo m 12 a b c num en) (-1, lat (u.2.1 (o + 14)) (tn b) N, lat (u.2.1 (o + 14)) (tn c) N) := by
  obtain ⟨fa, fb, fc⟩ := fine_abc (k := 12) (by decide) hv
  unfold perfK
  rw [if_neg (by decide), if_neg (by decide), if_neg (by decide), if_neg (by decide), if_neg (by decide), if_neg (by decide), if_neg (by decide), if_pos (by decide)]
  obtain ⟨pa, hpa, rfl⟩ := reg_of (x := a) fa
  obtain ⟨pb, hpb, rfl⟩ := reg_of (x := b) fb
  obtain ⟨pc, hpc, rfl⟩ := reg_of (x := c) fc
  rw [MD_latest h (by omega), ob_i, MD_latest h (by omega), ob_i]
  unfold g_X8_combine g_X8_combine_j33 g_X8_combine_j68
  rw [MD_sort h (by omega), ob_i, MD_sort h (by omega), ob_i, show mdo m 12 (nI pa) (nI pb) (nI pc) num en = (if m pb = 1 ∧ m pc = 1 then mgiv m pa 1 (m (40 + pb) &&& m (40 + pc)) else mtrp m 1) by show (if m (tn (nI pb)) = 1 ∧ m (tn (nI pc)) = 1 then mgiv m (tn (nI pa)) 1 (m (40 + tn (nI pb)) &&& m (40 + tn (nI pc))) else mtrp m 1) = _; rw [tnn (by omega), tnn (by omega), tnn (by omega)], tnn (by omega), tnn (by omega)]
  by_cases q : m pb = 1
  · by_cases q2 : m pc = 1
    · rw [if_pos q, if_pos (by decide), if_pos q2, if_pos ⟨q, q2⟩, MD_number h (by omega), ob_i, if_neg (by decide), MD_number h (by omega), ob_i, c_put h h8 (by omega), ob_i, ob_i]
      exact ⟨_, rfl, po_put h h8 (by omega) h10⟩
    · rw [if_pos q, if_pos (by decide), if_neg q2, if_neg (fun z => q2 z.2), ob_i]
      exact ⟨_, rfl, po_trap h h11 (by decide)⟩
  · rw [if_neg q, if_neg (fun z => q z.1), ob_i]
    exact ⟨_, rfl, po_trap h h11 (by decide)⟩
theorem cell_of {x : Int32} (h0 : ¬ x < 0) (h1 : x < 32) : ∃ k, k < 32 ∧ x = nI k ∧ 0 ≤ x ∧ x ≤ 31 := by
  rw [Int32.lt_iff_toInt_lt, t_0] at h0
  rw [Int32.lt_iff_toInt_lt, t_32] at h1
  obtain ⟨k, hk, e⟩ := t_nI (x := x) (N := 31) (by omega) (by omega)
  exact ⟨k, by omega, e, by rw [e]; exact nI_pos' (by omega), by rw [e]; exact nI_le (a := k) (b := 31) hk (by decide)⟩
theorem cell_no {x : Int32} (h : x < 0 ∨ ¬ x < 32) : ¬ (0 ≤ x ∧ x ≤ 31) := by
  rintro ⟨h1, h2⟩
  rw [Int32.le_iff_toInt_le] at h1 h2
  have e : (31 : Int32).toInt = 31 := rfl
  rcases h with q | q
  · rw [Int32.lt_iff_toInt_lt] at q
    omega
  · rw [Int32.lt_iff_toInt_lt, t_32] at q
    omega
theorem pf_13 {num en : Int32} (h : MD u o T N R l m) (h8 : N < 3800) (h10 : rF u o 10 = m 132) (h11 : rF u o 11 = -1) (hv : ¬ g_X10_isFine (nI 13) a b c = 0) : ∃ v, perfK F o (nI 13) a b c u = some ((mdo m 13 a b c num en).2.1, v) ∧ PO u v o T N R l m (mdo m 13 a b c num en) (-1, lat (u.2.1 (o + 14)) (tn b) N, lat (u.2.1 (o + 14)) (8 + tn (m (40 + tn b))) N) := by
  obtain ⟨fa, fb, fc⟩ := fine_abc (k := 13) (by decide) hv
  unfold perfK
  rw [if_neg (by decide), if_neg (by decide), if_neg (by decide), if_neg (by decide), if_neg (by decide), if_neg (by decide), if_neg (by decide), if_neg (by decide), if_pos (by decide)]
  obtain ⟨pa, hpa, rfl⟩ := reg_of (x := a) fa
  obtain ⟨pb, hpb, rfl⟩ := reg_of (x := b) fb
  rw [MD_latest h (by omega), ob_i]
  unfold g_X8_fromCell
  rw [MD_sort h (by omega), ob_i, show mdo m 13 (nI pa) (nI pb) c num en = mcel m pb (fun p => mgiv m pa (m p) (m (40 + p))) by show mcel m (tn (nI pb)) (fun p => mgiv m (tn (nI pa)) (m p) (m (40 + p))) = _; rw [tnn (by omega), tnn (by omega)], tnn (by omega)]
  unfold mcel
  by_cases q : m pb = 2
  · rw [if_pos q, if_pos q, MD_number h (by omega), ob_i]
    by_cases q1 : m (40 + pb) < 0
    · rw [if_pos q1, if_neg (cell_no (Or.inl q1)), ob_i]
      exact ⟨_, rfl, po_trap h h11 (by decide)⟩
    · rw [if_neg q1]
      by_cases q2 : m (40 + pb) < 32
      · obtain ⟨k, hk, ek, e3, e4⟩ := cell_of q1 q2
        rw [if_pos q2, if_pos ⟨e3, e4⟩, ek, c8, MD_latest h (by omega), ob_i, MD_sort h (by omega), ob_i, MD_number h (by omega), ob_i, c_put h h8 (by omega), ob_i, ob_i, tnn (by omega)]
        exact ⟨_, rfl, po_put h h8 (by omega) h10⟩
      · rw [if_neg q2, if_neg (cell_no (Or.inr q2)), ob_i]
        exact ⟨_, rfl, po_trap h h11 (by decide)⟩
  · rw [if_neg q, if_neg q, ob_i]
    exact ⟨_, rfl, po_trap h h11 (by decide)⟩
theorem pf_14 {num en : Int32} (h : MD u o T N R l m) (h8 : N < 3800) (h10 : rF u o 10 = m 132) (h11 : rF u o 11 = -1) (hv : ¬ g_X10_isFine (nI 14) a b c = 0) : ∃ v, perfK F o (nI 14) a b c u = some ((mdo m 14 a b c num en).2.1, v) ∧ PO u v o T N R l m (mdo m 14 a b c num en) (-1, lat (u.2.1 (o + 14)) (tn a) N, lat (u.2.1 (o + 14)) (tn b) N) := by
  obtain ⟨fa, fb, fc⟩ := fine_abc (k := 14) (by decide) hv
  unfold perfK
  rw [if_neg (by decide), if_neg (by decide), if_neg (by decide), if_neg (by decide), if_neg (by decide), if_neg (by decide), if_neg (by decide), if_neg (by decide), if_neg (by decide), if_pos (by decide)]
  obtain ⟨pa, hpa, rfl⟩ := reg_of (x := a) fa
  obtain ⟨pb, hpb, rfl⟩ := reg_of (x := b) fb
  rw [MD_latest h (by omega), ob_i, MD_latest h (by omega), ob_i]
  unfold g_X8_toCell
  rw [MD_sort h (by omega), ob_i, show mdo m 14 (nI pa) (nI pb) c num en = mcel m pa (fun p => mgiv m p (m pb) (m (40 + pb))) by show mcel m (tn (nI pa)) (fun p => mgiv m p (m (tn (nI pb))) (m (40 + tn (nI pb)))) = _; rw [tnn (by omega), tnn (by omega)], tnn (by omega), tnn (by omega)]
  unfold mcel
  by_cases q : m pa = 2
  · rw [if_pos q, if_pos q, MD_number h (by omega), ob_i]
    by_cases q1 : m (40 + pa) < 0
    · rw [if_pos q1, if_neg (cell_no (Or.inl q1)), ob_i]
      exact ⟨_, rfl, po_trap h h11 (by decide)⟩
    · rw [if_neg q1]
      by_cases q2 : m (40 + pa) < 32
      · obtain ⟨k, hk, ek, e3, e4⟩ := cell_of q1 q2
        rw [if_pos q2, if_pos ⟨e3, e4⟩, ek, c8, MD_sort h (by omega), ob_i, MD_number h (by omega), ob_i, c_put h h8 (by omega), ob_i, ob_i, tnn (by omega)]
        exact ⟨_, rfl, po_put h h8 (by omega) h10⟩
      · rw [if_neg q2, if_neg (cell_no (Or.inr q2)), ob_i]
        exact ⟨_, rfl, po_trap h h11 (by decide)⟩
  · rw [if_neg q, if_neg q, ob_i]
    exact ⟨_, rfl, po_trap h h11 (by decide)⟩
theorem pf_4 {num en : Int32} (h : MD u o T N R l m) (h8 : N < 3800) (h10 : rF u o 10 = m 132) (h11 : rF u o 11 = -1) (hv : ¬ g_X10_isFine (nI 4) a b c = 0) : ∃ v, perfK F o (nI 4) a b c u = some ((mdo m 4 a b c num en).2.1, v) ∧ PO u v o T N R l m (mdo m 4 a b c num en) (-1, lat (u.2.1 (o + 14)) (tn b) N, lat (u.2.1 (o + 14)) (tn c) N) := by
  obtain ⟨fa, fb, fc⟩ := fine_abc (k := 4) (by decide) hv
  unfold perfK
  rw [if_neg (by decide), if_neg (by decide), if_neg (by decide), if_neg (by decide), if_neg (by decide), if_neg (by decide), if_neg (by decide), if_neg (by decide), if_neg (by decide), if_neg (by decide), if_neg (by decide), if_neg (by decide), if_neg (by decide), if_neg (by decide), if_neg (by decide), if_neg (by decide), if_neg (by decide), if_neg (by decide)]
  obtain ⟨pa, hpa, rfl⟩ := reg_of (x := a) fa
  obtain ⟨pb, hpb, rfl⟩ := reg_of (x := b) fb
  obtain ⟨pc, hpc, rfl⟩ := reg_of (x := c) fc
  unfold g_X8_perform_j405 g_X8_reckon g_X8_reckon_j60 g_X8_reckon_j67 g_X8_reckon_j89
  rw [MD_latest h (by omega), ob_i, MD_latest h (by omega), ob_i, MD_sort h (by omega), ob_i, show mdo m 4 (nI pa) (nI pb) (nI pc) num en = mreck m 4 pa pb pc by show mreck m 4 (tn (nI pa)) (tn (nI pb)) (tn (nI pc)) = _; rw [tnn (by omega), tnn (by omega), tnn (by omega)], tnn (by omega), tnn (by omega)]
  unfold mreck
  by_cases q : m pb = 2
  · rw [if_pos q, MD_sort h (by omega), ob_i]
    by_cases q2 : m pc = 2
    · rw [if_pos q2, if_neg (c := ¬ m pb = 2 ∨ ¬ m pc = 2) (fun z => by rcases z with z | z; exact z q; exact z q2), MD_number h (by omega), ob_i, MD_number h (by omega), ob_i]
      rw [if_neg (by decide), if_neg (by decide), if_neg (by decide), if_neg (c := ((4 : Nat) = 7 ∨ (4 : Nat) = 8) ∧ m (40 + pc) = 0) (fun z => by rcases z.1 with y | y <;> cases y)]
      unfold g_X8_reckoned
      rw [if_pos (by decide), ob_i, c_put h h8 (by omega), ob_i, ob_i]
      exact ⟨_, rfl, po_put h h8 (by omega) h10⟩
    · rw [if_neg q2, if_pos (c := ¬ m pb = 2 ∨ ¬ m pc = 2) (Or.inr q2), ob_i]
      exact ⟨_, rfl, po_trap h h11 (by decide)⟩
  · rw [if_neg q, if_pos (c := ¬ m pb = 2 ∨ ¬ m pc = 2) (Or.inl q), ob_i]
    exact ⟨_, rfl, po_trap h h11 (by decide)⟩
theorem pf_5 {num en : Int32} (h : MD u o T N R l m) (h8 : N < 3800) (h10 : rF u o 10 = m 132) (h11 : rF u o 11 = -1) (hv : ¬ g_X10_isFine (nI 5) a b c = 0) : ∃ v, perfK F o (nI 5) a b c u = some ((mdo m 5 a b c num en).2.1, v) ∧ PO u v o T N R l m (mdo m 5 a b c num en) (-1, lat (u.2.1 (o + 14)) (tn b) N, lat (u.2.1 (o + 14)) (tn c) N) := by
  obtain ⟨fa, fb, fc⟩ := fine_abc (k := 5) (by decide) hv
  unfold perfK
  rw [if_neg (by decide), if_neg (by decide), if_neg (by decide), if_neg (by decide), if_neg (by decide), if_neg (by decide), if_neg (by decide), if_neg (by decide), if_neg (by decide), if_neg (by decide), if_neg (by decide), if_neg (by decide), if_neg (by decide), if_neg (by decide), if_neg (by decide), if_neg (by decide), if_neg (by decide), if_neg (by decide)]
  obtain ⟨pa, hpa, rfl⟩ := reg_of (x := a) fa
  obtain ⟨pb, hpb, rfl⟩ := reg_of (x := b) fb
  obtain ⟨pc, hpc, rfl⟩ := reg_of (x := c) fc
  unfold g_X8_perform_j405 g_X8_reckon g_X8_reckon_j60 g_X8_reckon_j67 g_X8_reckon_j89
  rw [MD_latest h (by omega), ob_i, MD_latest h (by omega), ob_i, MD_sort h (by omega), ob_i, show mdo m 5 (nI pa) (nI pb) (nI pc) num en = mreck m 5 pa pb pc by show mreck m 5 (tn (nI pa)) (tn (nI pb)) (tn (nI pc)) = _; rw [tnn (by omega), tnn (by omega), tnn (by omega)], tnn (by omega), tnn (by omega)]
  unfold mreck
  by_cases q : m pb = 2
  · rw [if_pos q, MD_sort h (by omega), ob_i]
    by_cases q2 : m pc = 2
    · rw [if_pos q2, if_neg (c := ¬ m pb = 2 ∨ ¬ m pc = 2) (fun z => by rcases z with z | z; exact z q; exact z q2), MD_number h (by omega), ob_i, MD_number h (by omega), ob_i]
      rw [if_neg (by decide), if_neg (by decide), if_neg (by decide), if_neg (c := ((5 : Nat) = 7 ∨ (5 : Nat) = 8) ∧ m (40 + pc) = 0) (fun z => by rcases z.1 with y | y <;> cases y)]
      unfold g_X8_reckoned
      rw [if_neg (by decide), if_pos (by decide), ob_i, c_put h h8 (by omega), ob_i, ob_i]
      exact ⟨_, rfl, po_put h h8 (by omega) h10⟩
    · rw [if_neg q2, if_pos (c := ¬ m pb = 2 ∨ ¬ m pc = 2) (Or.inr q2), ob_i]
      exact ⟨_, rfl, po_trap h h11 (by decide)⟩
  · rw [if_neg q, if_pos (c := ¬ m pb = 2 ∨ ¬ m pc = 2) (Or.inl q), ob_i]
    exact ⟨_, rfl, po_trap h h11 (by decide)⟩
theorem pf_6 {num en : Int32} (h : MD u o T N R l m) (h8 : N < 3800) (h10 : rF u o 10 = m 132) (h11 : rF u o 11 = -1) (hv : ¬ g_X10_isFine (nI 6) a b c = 0) : ∃ v, perfK F o (nI 6) a b c u = some ((mdo m 6 a b c num en).2.1, v) ∧ PO u v o T N R l m (mdo m 6 a b c num en) (-1, lat (u.2.1 (o + 14)) (tn b) N, lat (u.2.1 (o + 14)) (tn c) N) := by
  obtain ⟨fa, fb, fc⟩ := fine_abc (k := 6) (by decide) hv
  unfold perfK
  rw [if_neg (by decide), if_neg (by decide), if_neg (by decide), if_neg (by decide), if_neg (by decide), if_neg (by decide), if_neg (by decide), if_neg (by decide), if_neg (by decide), if_neg (by decide), if_neg (by decide), if_neg (by decide), if_neg (by decide), if_neg (by decide), if_neg (by decide), if_neg (by decide), if_neg (by decide), if_neg (by decide)]
  obtain ⟨pa, hpa, rfl⟩ := reg_of (x := a) fa
  obtain ⟨pb, hpb, rfl⟩ := reg_of (x := b) fb
  obtain ⟨pc, hpc, rfl⟩ := reg_of (x := c) fc
  unfold g_X8_perform_j405 g_X8_reckon g_X8_reckon_j60 g_X8_reckon_j67 g_X8_reckon_j89
  rw [MD_latest h (by omega), ob_i, MD_latest h (by omega), ob_i, MD_sort h (by omega), ob_i, show mdo m 6 (nI pa) (nI pb) (nI pc) num en = mreck m 6 pa pb pc by show mreck m 6 (tn (nI pa)) (tn (nI pb)) (tn (nI pc)) = _; rw [tnn (by omega), tnn (by omega), tnn (by omega)], tnn (by omega), tnn (by omega)]
  unfold mreck
  by_cases q : m pb = 2
  · rw [if_pos q, MD_sort h (by omega), ob_i]
    by_cases q2 : m pc = 2
    · rw [if_pos q2, if_neg (c := ¬ m pb = 2 ∨ ¬ m pc = 2) (fun z => by rcases z with z | z; exact z q; exact z q2), MD_number h (by omega), ob_i, MD_number h (by omega), ob_i]
      rw [if_neg (by decide), if_neg (by decide), if_neg (by decide), if_neg (c := ((6 : Nat) = 7 ∨ (6 : Nat) = 8) ∧ m (40 + pc) = 0) (fun z => by rcases z.1 with y | y <;> cases y)]
      unfold g_X8_reckoned
      rw [if_neg (by decide), if_neg (by decide), if_pos (by decide), ob_i, c_put h h8 (by omega), ob_i, ob_i]
      exact ⟨_, rfl, po_put h h8 (by omega) h10⟩
    · rw [if_neg q2, if_pos (c := ¬ m pb = 2 ∨ ¬ m pc = 2) (Or.inr q2), ob_i]
      exact ⟨_, rfl, po_trap h h11 (by decide)⟩
  · rw [if_neg q, if_pos (c := ¬ m pb = 2 ∨ ¬ m pc = 2) (Or.inl q), ob_i]
    exact ⟨_, rfl, po_trap h h11 (by decide)⟩
theorem pf_7 {num en : Int32} (h : MD u o T N R l m) (h8 : N < 3800) (h10 : rF u o 10 = m 132) (h11 : rF u o 11 = -1) (hv : ¬ g_X10_isFine (nI 7) a b c = 0) : ∃ v, perfK F o (nI 7) a b c u = some ((mdo m 7 a b c num en).2.1, v) ∧ PO u v o T N R l m (mdo m 7 a b c num en) (-1, lat (u.2.1 (o + 14)) (tn b) N, lat (u.2.1 (o + 14)) (tn c) N) := by
  obtain ⟨fa, fb, fc⟩ := fine_abc (k := 7) (by decide) hv
  unfold perfK
  rw [if_neg (by decide), if_neg (by decide), if_neg (by decide), if_neg (by decide), if_neg (by decide), if_neg (by decide), if_neg (by decide), if_neg (by decide), if_neg (by decide), if_neg (by decide), if_neg (by decide), if_neg (by decide), if_neg (by decide), if_neg (by decide), if_neg (by decide), if_neg (by decide), if_neg (by decide), if_neg (by decide)]
  obtain ⟨pa, hpa, rfl⟩ := reg_of (x := a) fa
  obtain ⟨pb, hpb, rfl⟩ := reg_of (x := b) fb
  obtain ⟨pc, hpc, rfl⟩ := reg_of (x := c) fc
  unfold g_X8_perform_j405 g_X8_reckon g_X8_reckon_j60 g_X8_reckon_j67 g_X8_reckon_j89
  rw [MD_latest h (by omega), ob_i, MD_latest h (by omega), ob_i, MD_sort h (by omega), ob_i, show mdo m 7 (nI pa) (nI pb) (nI pc) num en = mreck m 7 pa pb pc by show mreck m 7 (tn (nI pa)) (tn (nI pb)) (tn (nI pc)) = _; rw [tnn (by omega), tnn (by omega), tnn (by omega)], tnn (by omega), tnn (by omega)]
  unfold mreck
  by_cases q : m pb = 2
  · rw [if_pos q, MD_sort h (by omega), ob_i]
    by_cases q2 : m pc = 2
    · rw [if_pos q2, if_neg (c := ¬ m pb = 2 ∨ ¬ m pc = 2) (fun z => by rcases z with z | z; exact z q; exact z q2), MD_number h (by omega), ob_i, MD_number h (by omega), ob_i]
      rw [if_pos (by decide)]
      by_cases q3 : m (40 + pc) = 0
      · rw [if_pos q3, if_pos (c := ((7 : Nat) = 7 ∨ (7 : Nat) = 8) ∧ m (40 + pc) = 0) ⟨by decide, q3⟩, ob_i]
        exact ⟨_, rfl, po_trap h h11 (by decide)⟩
      · rw [if_neg q3, if_neg (c := ((7 : Nat) = 7 ∨ (7 : Nat) = 8) ∧ m (40 + pc) = 0) (fun z => q3 z.2), if_neg (by decide)]
        unfold g_X8_reckoned
        rw [if_neg (by decide), if_neg (by decide), if_neg (by decide), if_pos (by decide), if_neg q3, ck_t q3, ob_i, c_put h h8 (by omega), ob_i, ob_i]
        exact ⟨_, rfl, po_put h h8 (by omega) h10⟩
    · rw [if_neg q2, if_pos (c := ¬ m pb = 2 ∨ ¬ m pc = 2) (Or.inr q2), ob_i]
      exact ⟨_, rfl, po_trap h h11 (by decide)⟩
  · rw [if_neg q, if_pos (c := ¬ m pb = 2 ∨ ¬ m pc = 2) (Or.inl q), ob_i]
    exact ⟨_, rfl, po_trap h h11 (by decide)⟩
theorem pf_8 {num en : Int32} (h : MD u o T N R l m) (h8 : N < 3800) (h10 : rF u o 10 = m 132) (h11 : rF u o 11 = -1) (hv : ¬ g_X10_isFine (nI 8) a b c = 0) : ∃ v, perfK F o (nI 8) a b c u = some ((mdo m 8 a b c num en).2.1, v) ∧ PO u v o T N R l m (mdo m 8 a b c num en) (-1, lat (u.2.1 (o + 14)) (tn b) N, lat (u.2.1 (o + 14)) (tn c) N) := by
  obtain ⟨fa, fb, fc⟩ := fine_abc (k := 8) (by decide) hv
  unfold perfK
  rw [if_neg (by decide), if_neg (by decide), if_neg (by decide), if_neg (by decide), if_neg (by decide), if_neg (by decide), if_neg (by decide), if_neg (by decide), if_neg (by decide), if_neg (by decide), if_neg (by decide), if_neg (by decide), if_neg (by decide), if_neg (by decide), if_neg (by decide), if_neg (by decide), if_neg (by decide), if_neg (by decide)]
  obtain ⟨pa, hpa, rfl⟩ := reg_of (x := a) fa
  obtain ⟨pb, hpb, rfl⟩ := reg_of (x := b) fb
  obtain ⟨pc, hpc, rfl⟩ := reg_of (x := c) fc
  unfold g_X8_perform_j405 g_X8_reckon g_X8_reckon_j60 g_X8_reckon_j67 g_X8_reckon_j89
  rw [MD_latest h (by omega), ob_i, MD_latest h (by omega), ob_i, MD_sort h (by omega), ob_i, show mdo m 8 (nI pa) (nI pb) (nI pc) num en = mreck m 8 pa pb pc by show mreck m 8 (tn (nI pa)) (tn (nI pb)) (tn (nI pc)) = _; rw [tnn (by omega), tnn (by omega), tnn (by omega)], tnn (by omega), tnn (by omega)]
  unfold mreck
  by_cases q : m pb = 2
  · rw [if_pos q, MD_sort h (by omega), ob_i]
    by_cases q2 : m pc = 2
    · rw [if_pos q2, if_neg (c := ¬ m pb = 2 ∨ ¬ m pc = 2) (fun z => by rcases z with z | z; exact z q; exact z q2), MD_number h (by omega), ob_i, MD_number h (by omega), ob_i]
      rw [if_neg (by decide), if_pos (by decide)]
      by_cases q3 : m (40 + pc) = 0
      · rw [if_pos q3, if_pos (c := ((8 : Nat) = 7 ∨ (8 : Nat) = 8) ∧ m (40 + pc) = 0) ⟨by decide, q3⟩, ob_i]
        exact ⟨_, rfl, po_trap h h11 (by decide)⟩
      · rw [if_neg q3, if_neg (c := ((8 : Nat) = 7 ∨ (8 : Nat) = 8) ∧ m (40 + pc) = 0) (fun z => q3 z.2), if_neg (by decide)]
        unfold g_X8_reckoned
        rw [if_neg (by decide), if_neg (by decide), if_neg (by decide), if_neg (by decide), if_neg q3, ck_t q3, ob_i, c_put h h8 (by omega), ob_i, ob_i]
        exact ⟨_, rfl, po_put h h8 (by omega) h10⟩
    · rw [if_neg q2, if_pos (c := ¬ m pb = 2 ∨ ¬ m pc = 2) (Or.inr q2), ob_i]
      exact ⟨_, rfl, po_trap h h11 (by decide)⟩
  · rw [if_neg q, if_pos (c := ¬ m pb = 2 ∨ ¬ m pc = 2) (Or.inl q), ob_i]
    exact ⟨_, rfl, po_trap h h11 (by decide)⟩
theorem pf_9 {num en : Int32} (h : MD u o T N R l m) (h8 : N < 3800) (h10 : rF u o 10 = m 132) (h11 : rF u o 11 = -1) (hv : ¬ g_X10_isFine (nI 9) a b c = 0) : ∃ v, perfK F o (nI 9) a b c u = some ((mdo m 9 a b c num en).2.1, v) ∧ PO u v o T N R l m (mdo m 9 a b c num en) (-1, lat (u.2.1 (o + 14)) (tn b) N, lat (u.2.1 (o + 14)) (tn c) N) := by
  obtain ⟨fa, fb, fc⟩ := fine_abc (k := 9) (by decide) hv
  unfold perfK
  rw [if_neg (by decide), if_neg (by decide), if_neg (by decide), if_neg (by decide), if_neg (by decide), if_neg (by decide), if_neg (by decide), if_neg (by decide), if_neg (by decide), if_neg (by decide), if_neg (by decide), if_neg (by decide), if_neg (by decide), if_neg (by decide), if_neg (by decide), if_neg (by decide), if_neg (by decide), if_neg (by decide)]
  obtain ⟨pa, hpa, rfl⟩ := reg_of (x := a) fa
  obtain ⟨pb, hpb, rfl⟩ := reg_of (x := b) fb
  obtain ⟨pc, hpc, rfl⟩ := reg_of (x := c) fc
  unfold g_X8_perform_j405 g_X8_reckon g_X8_reckon_j60 g_X8_reckon_j67 g_X8_reckon_j89
  rw [MD_latest h (by omega), ob_i, MD_latest h (by omega), ob_i, MD_sort h (by omega), ob_i, show mdo m 9 (nI pa) (nI pb) (nI pc) num en = mreck m 9 pa pb pc by show mreck m 9 (tn (nI pa)) (tn (nI pb)) (tn (nI pc)) = _; rw [tnn (by omega), tnn (by omega), tnn (by omega)], tnn (by omega), tnn (by omega)]
  unfold mreck
  by_cases q : m pb = 2
  · rw [if_pos q, MD_sort h (by omega), ob_i]
    by_cases q2 : m pc = 2
    · rw [if_pos q2, if_neg (c := ¬ m pb = 2 ∨ ¬ m pc = 2) (fun z => by rcases z with z | z; exact z q; exact z q2), MD_number h (by omega), ob_i, MD_number h (by omega), ob_i]
      rw [if_neg (by decide), if_neg (by decide), if_pos (by decide), if_neg (c := ((9 : Nat) = 7 ∨ (9 : Nat) = 8) ∧ m (40 + pc) = 0) (fun z => by rcases z.1 with y | y <;> cases y), if_pos rfl]
      by_cases q3 : m (40 + pb) < m (40 + pc)
      · have q4 : ¬ m (40 + pc) ≤ m (40 + pb) := by
          rw [Int32.lt_iff_toInt_lt] at q3
          rw [Int32.le_iff_toInt_le]
          omega
        rw [if_neg q4, if_pos q3, c_put h h8 (by omega), ob_i, ob_i]
        exact ⟨_, rfl, po_put h h8 (by omega) h10⟩
      · have q4 : m (40 + pc) ≤ m (40 + pb) := by
          rw [Int32.lt_iff_toInt_lt] at q3
          rw [Int32.le_iff_toInt_le]
          omega
        rw [if_pos q4, if_neg q3, c_put h h8 (by omega), ob_i, ob_i]
        exact ⟨_, rfl, po_put h h8 (by omega) h10⟩
    · rw [if_neg q2, if_pos (c := ¬ m pb = 2 ∨ ¬ m pc = 2) (Or.inr q2), ob_i]
      exact ⟨_, rfl, po_trap h h11 (by decide)⟩
  · rw [if_neg q, if_pos (c := ¬ m pb = 2 ∨ ¬ m pc = 2) (Or.inl q), ob_i]
    exact ⟨_, rfl, po_trap h h11 (by decide)⟩
theorem pf_15 {num en : Int32} (h : MD u o T N R l m) (h8 : N < 3800) (h10 : rF u o 10 = m 132) (h11 : rF u o 11 = -1) (hv : ¬ g_X10_isFine (nI 15) a b c = 0) : ∃ v, perfK F o (nI 15) a b c u = some ((mdo m 15 a b c num en).2.1, v) ∧ PO u v o T N R l m (mdo m 15 a b c num en) (-1, -1, -1) := by
  obtain ⟨fa, fb, fc⟩ := fine_abc (k := 15) (by decide) hv
  unfold perfK
  rw [if_neg (by decide), if_neg (by decide), if_neg (by decide), if_neg (by decide), if_neg (by decide), if_neg (by decide), if_neg (by decide), if_neg (by decide), if_neg (by decide), if_neg (by decide), if_pos (by decide)]
  rw [c_goOnAt h.1 h.2.1, ob_i]
  exact ⟨_, rfl, po_goOn h h10 h11⟩
theorem pf_16 {num en : Int32} (h : MD u o T N R l m) (h8 : N < 3800) (h10 : rF u o 10 = m 132) (h11 : rF u o 11 = -1) (hv : ¬ g_X10_isFine (nI 16) a b c = 0) : ∃ v, perfK F o (nI 16) a b c u = some ((mdo m 16 a b c num en).2.1, v) ∧ PO u v o T N R l m (mdo m 16 a b c num en) (-1, -1, -1) := by
  obtain ⟨fa, fb, fc⟩ := fine_abc (k := 16) (by decide) hv
  unfold perfK
  rw [if_neg (by decide), if_neg (by decide), if_neg (by decide), if_neg (by decide), if_neg (by decide), if_neg (by decide), if_neg (by decide), if_neg (by decide), if_neg (by decide), if_neg (by decide), if_neg (by decide), if_pos (by decide)]
  obtain ⟨pa, hpa, rfl⟩ := reg_of (x := a) fa
  rw [MD_latest h (by omega), ob_i]
  unfold g_X8_goOnIf
  rw [MD_sort h (by omega), ob_i, show mdo m 16 (nI pa) b c num en = (if m pa = 1 then ((if m (40 + pa) = 1 then upd m 120 b else m), 0, -1, -1) else mtrp m 1) by show (if m (tn (nI pa)) = 1 then ((if m (40 + tn (nI pa)) = 1 then upd m 120 b else m), 0, -1, -1) else mtrp m 1) = _; rw [tnn (by omega)]]
  by_cases q : m pa = 1
  · rw [if_pos q, if_pos q, MD_number h (by omega), ob_i]
    by_cases q2 : m (40 + pa) = 1
    · rw [if_pos q2, if_pos q2, c_goOnAt h.1 h.2.1, ob_i, ob_i]
      exact ⟨_, rfl, po_goOn h h10 h11⟩
    · rw [if_neg q2, if_neg q2, ob_i]
      exact ⟨_, rfl, po_no h h10 h11⟩
  · rw [if_neg q, if_neg q, ob_i]
    exact ⟨_, rfl, po_trap h h11 (by decide)⟩
theorem pf_21 {num en : Int32} (h : MD u o T N R l m) (h8 : N < 3800) (h10 : rF u o 10 = m 132) (h11 : rF u o 11 = -1) (hv : ¬ g_X10_isFine (nI 21) a b c = 0) (h131 : m 131 = R T 131) : ∃ v, perfK F o (nI 21) a b c u = some ((mdo m 21 a b c num en).2.1, v) ∧ PO u v o T N R l m (mdo m 21 a b c num en) (-1, -1, -1) := by
  obtain ⟨fa, fb, fc⟩ := fine_abc (k := 21) (by decide) hv
  unfold perfK
  rw [if_neg (by decide), if_neg (by decide), if_neg (by decide), if_neg (by decide), if_neg (by decide), if_neg (by decide), if_neg (by decide), if_neg (by decide), if_neg (by decide), if_neg (by decide), if_neg (by decide), if_neg (by decide), if_neg (by decide), if_neg (by decide), if_neg (by decide), if_neg (by decide), if_pos (by decide)]
  obtain ⟨pa, hpa, rfl⟩ := reg_of (x := a) fa
  rw [MD_latest h (by omega), ob_i]
  unfold g_X8_putOut
  rw [MD_sort h (by omega), ob_i, MD_number h (by omega), ob_i, c_addOut h h131, ob_i, ob_i, show mdo m 21 (nI pa) b c num en = (upd (upd m 130 (m 130 + 1)) 131 (31 * m 131 + 3 * m (40 + pa) + m pa), 0, -1, -1) by show (upd (upd m 130 (m 130 + 1)) 131 (31 * m 131 + 3 * m (40 + tn (nI pa)) + m (tn (nI pa))), (0 : Int32), (-1 : Int32), (-1 : Int32)) = _; rw [tnn (by omega)]]
  exact ⟨_, rfl, po_out h h10 h11⟩
theorem pf_18 {num en : Int32} (h : MD u o T N R l m) (h8 : N < 3800) (h10 : rF u o 10 = m 132) (h11 : rF u o 11 = -1) (hv : ¬ g_X10_isFine (nI 18) a b c = 0) {d : Nat} (hd : R T 121 = nI d) (hd2 : m 121 = nI d) (d8 : d ≤ 8) (hst : ∀ i, i < d → m (122 + i) = R T (122 + i)) (hF : 10000 < F) : ∃ v, perfK F o (nI 18) a b c u = some ((mdo m 18 a b c num en).2.1, v) ∧ PO u v o T N R l m (mdo m 18 a b c num en) (-1, -1, -1) := by
  obtain ⟨fa, fb, fc⟩ := fine_abc (k := 18) (by decide) hv
  unfold perfK
  rw [if_neg (by decide), if_neg (by decide), if_neg (by decide), if_neg (by decide), if_neg (by decide), if_neg (by decide), if_neg (by decide), if_neg (by decide), if_neg (by decide), if_neg (by decide), if_neg (by decide), if_neg (by decide), if_neg (by decide), if_pos (by decide)]
  unfold g_X8_goUp
  have hS : ∀ s, s ≤ T → SI u o R s := fun s hs => SI_c (h.2.2.1 s (by omega)) (fun _ _ => rfl) rfl rfl rfl (fun s' hs' => (Rx_le (by omega)).symm)
  rw [h.1, c_stackSize h.1 (by have := h.2.1; omega) (Nat.le_refl _) hS hF, ob_i, hd, show mdo m 18 a b c num en = (if m 121 = 0 then (upd m 132 2, 0, -1, -1) else (upd (upd m 121 (m 121 - 1)) 120 (m (122 + tn (m 121 - 1))), 0, -1, -1)) from rfl, hd2]
  cases d with
  | zero =>
    rw [if_pos nI_0, if_pos nI_0, lt1_i, ob_i]
    exact ⟨_, rfl, po_end h h11⟩
  | succ d =>
    obtain ⟨d', k1, k2, -, k4⟩ := (hS T (Nat.le_refl _)).2.2.2
    have e1 : d' = d + 1 := nI_inj (by omega) (by omega) (k2.symm.trans hd)
    subst e1
    obtain ⟨s', b1, b2, b3, b4, b5⟩ := k4 d rfl
    have hT3 := h.2.1
    rw [if_neg (nI_ne0 (by omega) (by omega)), if_neg (nI_ne0 (by omega) (by omega)), nI_pred, c_stackedAt h.1 (by omega) (Nat.le_refl _) hS hd (by omega) hF, ob_i, if_neg (fun z => by rcases z with z | z; exact nI_pos (by omega) z; exact nI_ge (show d < d + 1 by omega) (by omega) z), tnn (by omega), c_goOnAt h.1 h.2.1, ob_i]
    have e33 : (rg_R u (o + 30) (T + 1) (R T (122 + d))).2.1 (o + 33) T = nI s' := by rw [R_n (by omega)]; exact b2
    rw [c_stackDown (u := rg_R u (o + 30) (T + 1) (R T (122 + d))) (s := s') h.1 h.2.1 b1 e33, ob_i, ob_i, R_n (show o + 33 ≠ o + 30 by omega), hst d (by omega)]
    exact ⟨_, rfl, po_down h h10 h11 b1 (by omega) b4 (fun i hi => by rw [hst i (by omega)]; exact b5 i hi)⟩
end XO
end W_63
section W_64
-- 97zx.order
/-! the class: calls, inputs, draws; an order -/
def caddS (u : rg_U) (q C : Nat) (t p d : Int32) : rg_U := sF (rg_R (rg_R (rg_R u (q + 1) C t) (q + 2) C p) (q + 3) C d) q 3 (nI (C + 1))
def laddS (u : rg_U) (q L : Nat) (t g p s n : Int32) : rg_U := sF (rg_R (rg_R (rg_R (rg_R (rg_R u (q + 1) L t) (q + 2) L g) (q + 4) L p) (q + 5) L s) (q + 3) L n) q 5 (nI (L + 1))
section XQ
variable {F o T N p C L A0 W : Nat} {R : Nat → Row} {l : Nat → Nat} {m : Row} {u : rg_U} {x s n a b c e : Int32} {k : Int32 × Int32 × Int32}
theorem caddS_n {q j : Nat} {t p d : Int32} (h : j < q + 1 ∨ q + 3 < j) : (caddS u q C t p d).2.1 j = u.2.1 j := by
  unfold caddS
  rw [sF_A, R_n (by omega), R_n (by omega), R_n (by omega)]
theorem caddS_f {q i : Nat} {t p d : Int32} (h : i ≠ 100 * q + 3) : (caddS u q C t p d).1 i = u.1 i := sF_n h
theorem caddS_g {q : Nat} {t p d : Int32} : (caddS u q C t p d).2.2 = u.2.2 := rfl
theorem laddS_n {q j : Nat} {t g p s n : Int32} (h : j < q + 1 ∨ q + 5 < j) : (laddS u q L t g p s n).2.1 j = u.2.1 j := by
  unfold laddS
  rw [sF_A, R_n (by omega), R_n (by omega), R_n (by omega), R_n (by omega), R_n (by omega)]
theorem laddS_f {q i : Nat} {t g p s n : Int32} (h : i ≠ 100 * q + 5) : (laddS u q L t g p s n).1 i = u.1 i := sF_n h
theorem laddS_g {q : Nat} {t g p s n : Int32} : (laddS u q L t g p s n).2.2 = u.2.2 := rfl
theorem laddS_N {q : Nat} {t g p s n : Int32} : rF (laddS u q L t g p s n) q 5 = nI (L + 1) := sF_y
theorem MD_cadd {t p d : Int32} (h : MD u o T N R l m) : MD (caddS u (o + 24) C t p d) o T N R l m := MD_c h (caddS_f (by omega)) (caddS_f (by omega)) (fun j j1 j2 _ => caddS_n (by omega)) (fun j j1 j2 => caddS_n (by omega))
theorem MD_ladd {t g p s n : Int32} (h : MD u o T N R l m) : MD (laddS u (o + 6) L t g p s n) o T N R l m := MD_c h (laddS_f (by omega)) (laddS_f (by omega)) (fun j j1 j2 _ => laddS_n (by omega)) (fun j j1 j2 => laddS_n (by omega))
theorem MD_6 {i : Nat} {x : Int32} (h : MD u o T N R l m) (ho : 116 ≤ o) (hi : i < 100) : MD (sF u 6 i x) o T N R l m := MD_c h (sF_n (by omega)) (sF_n (by omega)) (fun _ _ _ _ => rfl) (fun _ _ _ => rfl)
theorem pf_17 {d : Nat} {num en : Int32} (h : MD u o T N R l m) (h10 : rF u o 10 = m 132) (h11 : rF u o 11 = -1) (hd : R T 121 = nI d) (hd2 : m 121 = nI d) (d8 : d ≤ 8) (hst : ∀ i, i < d → m (122 + i) = R T (122 + i)) (h120 : m 120 = R T 120 + 1) (hC : rF u (o + 24) 3 = nI C) (hC1 : C ≤ 100) (hF : 10000 < F) : ∃ v u', perfK F o (nI 17) a b c u = some ((mdo m 17 a b c num en).2.1, v) ∧ ((d < 8 ∧ C < 100 ∧ u' = caddS u (o + 24) C (nI T) a (nI d)) ∨ (¬ (d < 8 ∧ C < 100) ∧ u' = u)) ∧ ((mdo m 17 a b c num en).2.1 = 0 ↔ d < 8) ∧ PO u' v o T N R l m (mdo m 17 a b c num en) k := by
  unfold perfK
  rw [if_neg (by decide), if_neg (by decide), if_neg (by decide), if_neg (by decide), if_neg (by decide), if_neg (by decide), if_neg (by decide), if_neg (by decide), if_neg (by decide), if_neg (by decide), if_neg (by decide), if_neg (by decide), if_pos (by decide)]
  unfold g_X8_goDown
  have hT3 := h.2.1
  have hS : ∀ s, s ≤ T → SI u o R s := fun s hs => SI_c (h.2.2.1 s (by omega)) (fun _ _ => rfl) rfl rfl rfl (fun s' hs' => (Rx_le (by omega)).symm)
  rw [h.1, c_stackSize h.1 (by omega) (Nat.le_refl _) hS hF, ob_i, hd, show mdo m 17 a b c num en = (if m 121 = 8 then mtrp m 4 else (upd (upd (upd m (122 + tn (m 121)) (m 120)) 121 (m 121 + 1)) 120 a, 0, -1, -1)) from rfl, hd2]
  by_cases q : d < 8
  · have n8 : ¬ nI d = 8 := fun z => by
      have := nI_inj (b := 8) (by omega) (by omega) z
      omega
    rw [if_pos (show nI d < 8 from nI_lt (a := d) (b := 8) q (by decide)), if_neg n8, tnn (by omega), nI_1]
    have fin : ∀ u', MD u' o T N R l m → rF u' o 10 = m 132 → rF u' o 11 = -1 → ∃ v, ob (g_X7_stackUp F o u') (fun r9 => ob (g_X7_goOnAt F o a r9) (fun r14 => some ((0 : Int32), r14))) = some (0, v) ∧ PO u' v o T N R l m (upd (upd (upd m (122 + d) (m 120)) 121 (nI (d + 1))) 120 a, 0, -1, -1) k := fun u' h' h10' h11' => by
      rw [c_stackUp h'.1 h'.2.1, ob_i, c_goOnAt (u := rg_R u' (o + 33) (T + 1) (nI T)) h'.1 h'.2.1, ob_i]
      exact ⟨_, rfl, po_up h' h10' h11' hd q h120 hst⟩
    by_cases qC : C < 100
    · rw [c_calladd hC qC, ob_i]
      obtain ⟨v, e1, e2⟩ := fin (caddS u (o + 24) C (nI T) a (nI d)) (MD_cadd h) ((caddS_f (by omega)).trans h10) ((caddS_f (by omega)).trans h11)
      rw [show sF (rg_R (rg_R (rg_R u (o + 24 + 1) C (nI T)) (o + 24 + 2) C a) (o + 24 + 3) C (nI d)) (o + 24) 3 (nI (C + 1)) = caddS u (o + 24) C (nI T) a (nI d) from rfl, e1, ob_i]
      exact ⟨v, _, rfl, Or.inl ⟨q, qC, rfl⟩, ⟨fun _ => q, fun _ => rfl⟩, e2⟩
    · have eC : C = 100 := by omega
      rw [c_callfull (by rw [hC, eC]), ob_i]
      obtain ⟨v, e1, e2⟩ := fin u h h10 h11
      rw [e1, ob_i]
      exact ⟨v, _, rfl, Or.inr ⟨fun z => qC z.2, rfl⟩, ⟨fun _ => q, fun _ => rfl⟩, e2⟩
  · have e8 : d = 8 := by omega
    subst e8
    rw [if_neg (by decide), if_pos (by decide), ob_i]
    exact ⟨u, u, rfl, Or.inr ⟨fun z => q z.1, rfl⟩, ⟨fun z => absurd (show (4 : Int32) = 0 from z) (by decide), fun z => absurd z q⟩, po_trap h h11 (by decide)⟩
/-- what is taken from outside is put, and told to rest on its entry -/
theorem po_outside {w : rg_U} {g num en : Int32} (h : MD w o T N R l m) (h8 : N < 3800) (hp : p < 40) (h10 : rF w o 10 = m 132) (hL : rF w (o + 6) 5 = nI L) (hL8 : L < 800) : ∃ v, g_X7_putFromOutside F o (nI p) g num w = some v ∧ PO (laddS w (o + 6) L (nI T) g (-1) 2 num) v o T N R l m (mput m p 2 num, 0, en, nI p) (nI L, -1, -1) := by
  unfold g_X7_putFromOutside g_X3_addWhole
  have h' : MD (laddS w (o + 6) L (nI T) g (-1) 2 num) o T N R l m := MD_ladd h
  have h10' : rF (laddS w (o + 6) L (nI T) g (-1) 2 num) o 10 = m 132 := (laddS_f (by omega)).trans h10
  rw [h.1, c_logadd hL hL8, ob_i, ob_i, show sF (rg_R (rg_R (rg_R (rg_R (rg_R w (o + 6 + 1) L (nI T)) (o + 6 + 2) L g) (o + 6 + 4) L (-1)) (o + 6 + 5) L 2) (o + 6 + 3) L num) (o + 6) 5 (nI (L + 1)) = laddS w (o + 6) L (nI T) g (-1) 2 num from rfl, c_put h' h8 hp, ob_i]
  obtain ⟨N', a1, a2, a3, a4, a5, a6, a7⟩ := po_put (en := en) (e := -1) (a := -1) (b := -1) (s := 2) (n := num) h' h8 hp h10'
  generalize hs1 : sF (putS (laddS w (o + 6) L (nI T) g (-1) 2 num) o T N p 2 num (-1) (-1) (-1)) o 11 (if m p = 2 ∧ m (40 + p) = num then -1 else nI p) = s1 at *
  have hN' : N' = N + 1 := by
    rcases a7 with ⟨z1, z2⟩ | ⟨z1, -⟩
    · exact absurd z2 (nI_m1 (by omega))
    · exact z1
  subst hN'
  have e9 : rF s1 o 9 = nI T := a1.1
  have eL : rF s1 (o + 6) 5 = nI (L + 1) := (a2.2.2 _ (by omega)).trans laddS_N
  rw [e9, eL, nI_pred, c_rest (MD_N a1) h8, ob_i]
  refine ⟨_, rfl, N + 1, MD_c a1 (congrFun restS_f _) (congrFun restS_f _) (fun j j1 j2 j3 => restS_n (by omega)) (fun j j1 j2 => restS_n (by omega)), FS_t a2 (FS_rest rfl), a3, a4, a5, fun j i j1 j2 hi => ?_, Or.inr ⟨rfl, ?_, ?_, ?_, ?_, ?_⟩⟩
  · rw [← a6 j i j1 j2 hi]
    unfold restS
    rw [R_at, R_at, R_at, R_at, if_neg (by omega), if_neg (by omega), if_neg (by omega), if_neg (by omega)]
  · rcases a7 with ⟨z1, z2⟩ | ⟨-, z2, -⟩
    · omega
    · rw [restS_n (by omega)]; exact z2
  · unfold restS
    rw [R_n (by omega), R_n (by omega), R_n (by omega), show o + 19 = o + 12 + 7 from rfl, R_s, pk_us]
  · unfold restS
    rw [R_n (by omega), R_n (by omega), show o + 20 = o + 12 + 8 from rfl, R_s, pk_us]
  · unfold restS
    rw [R_n (by omega), show o + 21 = o + 12 + 9 from rfl, R_s, pk_us]
  · unfold restS
    rw [show o + 22 = o + 12 + 10 from rfl, R_s, pk_us]
theorem pf_19 {en : Int32} (h : MD u o T N R l m) (h8 : N < 3800) (h10 : rF u o 10 = m 132) (hv : ¬ g_X10_isFine (nI 19) a b c = 0) (ho : 116 ≤ o) (hL : rF u (o + 6) 5 = nI L) (hL8 : L < 800) (hO : okO9 u A0 (W + 1)) : ∃ v, perfK F o (nI 19) a b c u = some (0, v) ∧ PO (laddS (sF (sF u 6 1 (nI ((A0 + 1) % 900))) 6 2 (nI W)) (o + 6) L (nI T) 0 (-1) 2 (wt9 u A0 0)) v o T N R l m (mdo m 19 a b c (wt9 u A0 0) en) (nI L, -1, -1) := by
  obtain ⟨fa, fb, fc⟩ := fine_abc (k := 19) (by decide) hv
  obtain ⟨pa, hpa, rfl⟩ := reg_of (x := a) fa
  unfold perfK
  rw [if_neg (by decide), if_neg (by decide), if_neg (by decide), if_neg (by decide), if_neg (by decide), if_neg (by decide), if_neg (by decide), if_neg (by decide), if_neg (by decide), if_neg (by decide), if_neg (by decide), if_neg (by decide), if_neg (by decide), if_neg (by decide), if_pos (by decide)]
  obtain ⟨w, e1, e2, -, -⟩ := c_takeFirst (F := F) hO
  rw [e1, ob_i]
  dsimp only
  subst e2
  have h' : MD (sF (sF u 6 1 (nI ((A0 + 1) % 900))) 6 2 (nI W)) o T N R l m := MD_6 (MD_6 h ho (by omega)) ho (by omega)
  obtain ⟨v, e3, e4⟩ := po_outside (F := F) (g := 0) (num := wt9 u A0 0) (en := en) h' h8 (show pa < 40 by omega) (by show (sF (sF u 6 1 _) 6 2 _).1 (100 * o + 10) = _; rw [sF_n (by omega), sF_n (by omega)]; exact h10) (by show (sF (sF u 6 1 _) 6 2 _).1 (100 * (o + 6) + 5) = _; rw [sF_n (by omega), sF_n (by omega)]; exact hL) hL8
  rw [e3, ob_i, show mdo m 19 (nI pa) b c (wt9 u A0 0) en = (mput m pa 2 (wt9 u A0 0), 0, en, nI pa) by show (mput m (tn (nI pa)) 2 (wt9 u A0 0), (0 : Int32), en, nI pa) = _; rw [tnn (by omega)]]
  exact ⟨v, rfl, e4⟩
theorem pf_20 {en : Int32} (h : MD u o T N R l m) (h8 : N < 3800) (h10 : rF u o 10 = m 132) (hv : ¬ g_X10_isFine (nI 20) a b c = 0) (ho : 116 ≤ o) (hL : rF u (o + 6) 5 = nI L) (hL8 : L < 800) : ∃ v, perfK F o (nI 20) a b c u = some (0, v) ∧ PO (laddS (sF u 6 3 (drawX (rF u 6 3))) (o + 6) L (nI T) 1 (-1) 2 (drawN (rF u 6 3) b)) v o T N R l m (mdo m 20 a b c (drawN (rF u 6 3) b) en) (nI L, -1, -1) := by
  obtain ⟨fa, fb, fc⟩ := fine_abc (k := 20) (by decide) hv
  obtain ⟨pa, hpa, rfl⟩ := reg_of (x := a) fa
  have fb' : ¬ g_X10_isIn b 1 1000 = 0 := by rw [← ft4]; exact fb
  obtain ⟨B, eB, hB1, hB2⟩ := in_nat fb' (by decide)
  have hB : 1 ≤ B := by have e1 : (1 : Int32).toInt = 1 := rfl; omega
  have hB3 : B ≤ 1000 := by have e1 : (1000 : Int32).toInt = 1000 := rfl; omega
  unfold perfK
  rw [if_neg (by decide), if_neg (by decide), if_neg (by decide), if_neg (by decide), if_neg (by decide), if_neg (by decide), if_neg (by decide), if_neg (by decide), if_neg (by decide), if_neg (by decide), if_neg (by decide), if_neg (by decide), if_neg (by decide), if_neg (by decide), if_neg (by decide), if_pos (by decide)]
  have ed : g_X4_draw F b u = some (drawN (rF u 6 3) b, sF u 6 3 (drawX (rF u 6 3))) := by
    unfold g_X4_draw
    rw [lt1_i, if_pos (by rw [eB]; exact nI_le (a := 1) hB (by omega)), ck_t (by rw [eB]; exact nI_ne0 (by omega) (by omega)), sF_y]
    rfl
  rw [ed, ob_i]
  dsimp only
  have h' : MD (sF u 6 3 (drawX (rF u 6 3))) o T N R l m := MD_6 h ho (by omega)
  obtain ⟨v, e3, e4⟩ := po_outside (F := F) (g := 1) (num := drawN (rF u 6 3) b) (en := en) h' h8 (show pa < 40 by omega) (by show (sF u 6 3 _).1 (100 * o + 10) = _; rw [sF_n (by omega)]; exact h10) (by show (sF u 6 3 _).1 (100 * (o + 6) + 5) = _; rw [sF_n (by omega)]; exact hL) hL8
  rw [e3, ob_i, show mdo m 20 (nI pa) b c (drawN (rF u 6 3) b) en = (mput m pa 2 (drawN (rF u 6 3) b), 0, en, nI pa) by show (mput m (tn (nI pa)) 2 (drawN (rF u 6 3) b), (0 : Int32), en, nI pa) = _; rw [tnn (by omega)]]
  exact ⟨v, rfl, e4⟩
end XQ
end W_64
section W_65
-- 97zy.step
/-! the class: a step -/
/-- what the put of an order is told to rest on: an entry of the log, two puts -/
def lkV (k : Nat) (a b c : Int32) (L : Nat) (m : Row) (pp : Nat → Int32) (N : Nat) : Int32 × Int32 × Int32 := match k with
  | 0 => (-1, -1, -1)
  | 1 => (-1, -1, -1)
  | 2 => (-1, -1, -1)
  | 3 => (-1, lat pp (tn b) N, -1)
  | 11 => (-1, lat pp (tn b) N, -1)
  | 13 => (-1, lat pp (tn b) N, lat pp (8 + tn (m (40 + tn b))) N)
  | 14 => (-1, lat pp (tn a) N, lat pp (tn b) N)
  | 15 => (-1, -1, -1)
  | 16 => (-1, -1, -1)
  | 17 => (-1, -1, -1)
  | 18 => (-1, -1, -1)
  | 19 => (nI L, -1, -1)
  | 20 => (nI L, -1, -1)
  | 21 => (-1, -1, -1)
  | 22 => (-1, -1, -1)
  | _ => (-1, lat pp (tn b) N, lat pp (tn c) N)
/-- what comes from outside, and calls: what an order changes ahead of the rest -/
def EX (k : Nat) (tr : Int32) (u u' : rg_U) (o T C L A0 W d : Nat) (a b : Int32) : Prop :=
  (k = 17 ∧ tr = 0 ∧ C < 100 ∧ u' = caddS u (o + 24) C (nI T) a (nI d)) ∨
  (k = 19 ∧ u' = laddS (sF (sF u 6 1 (nI ((A0 + 1) % 900))) 6 2 (nI (W - 1))) (o + 6) L (nI T) 0 (-1) 2 (wt9 u A0 0)) ∨
  (k = 20 ∧ u' = laddS (sF u 6 3 (drawX (rF u 6 3))) (o + 6) L (nI T) 1 (-1) 2 (drawN (rF u 6 3) b)) ∨
  (¬ (k = 17 ∧ tr = 0 ∧ C < 100) ∧ k ≠ 19 ∧ k ≠ 20 ∧ u' = u)
section XR
variable {F o T N C L A0 W d k cn : Nat} {R : Nat → Row} {l : Nat → Nat} {m : Row} {u : rg_U} {a b c num en : Int32}
theorem EX_no {tr : Int32} (h17 : k ≠ 17) (h19 : k ≠ 19) (h20 : k ≠ 20) : EX k tr u u o T C L A0 W d a b := Or.inr (Or.inr (Or.inr ⟨fun z => h17 z.1, h19, h20, rfl⟩))
theorem c_order (hk : k < 23) (h : MD u o T N R l m) (h8 : N < 3800) (h10 : rF u o 10 = m 132) (h11 : rF u o 11 = -1) (hv : ¬ g_X10_isFine (nI k) a b c = 0) (ho : 116 ≤ o) (hd : R T 121 = nI d) (hd2 : m 121 = nI d) (d8 : d ≤ 8) (hst : ∀ i, i < d → m (122 + i) = R T (122 + i)) (h120 : m 120 = R T 120 + 1) (h131 : m 131 = R T 131) (hC : rF u (o + 24) 3 = nI C) (hC1 : C ≤ 100) (hL : rF u (o + 6) 5 = nI L) (hL8 : k = 19 ∨ k = 20 → L < 800) (hO : okO9 u A0 W) (hW : k = 19 → 0 < W) (hn19 : k = 19 → num = wt9 u A0 0) (hn20 : k = 20 → num = drawN (rF u 6 3) b) (hF : 10000 < F) : ∃ v u', perfK F o (nI k) a b c u = some ((mdo m k a b c num en).2.1, v) ∧ EX k (mdo m k a b c num en).2.1 u u' o T C L A0 W d a b ∧ PO u' v o T N R l m (mdo m k a b c num en) (lkV k a b c L m (u.2.1 (o + 14)) N) := by
  match k, hk with
  | 0, _ =>
    obtain ⟨v, e1, e2⟩ := pf_0 (F := F) (num := num) (en := en) h h8 h10 h11 hv
    exact ⟨v, u, e1, EX_no (by decide) (by decide) (by decide), e2⟩
  | 1, _ =>
    obtain ⟨v, e1, e2⟩ := pf_1 (F := F) (num := num) (en := en) h h8 h10 h11 hv
    exact ⟨v, u, e1, EX_no (by decide) (by decide) (by decide), e2⟩
  | 2, _ =>
    obtain ⟨v, e1, e2⟩ := pf_2 (F := F) (num := num) (en := en) h h8 h10 h11 hv
    exact ⟨v, u, e1, EX_no (by decide) (by decide) (by decide), e2⟩
  | 3, _ =>
    obtain ⟨v, e1, e2⟩ := pf_3 (F := F) (num := num) (en := en) h h8 h10 h11 hv
    exact ⟨v, u, e1, EX_no (by decide) (by decide) (by decide), e2⟩
  | 4, _ =>
    obtain ⟨v, e1, e2⟩ := pf_4 (F := F) (num := num) (en := en) h h8 h10 h11 hv
    exact ⟨v, u, e1, EX_no (by decide) (by decide) (by decide), e2⟩
  | 5, _ =>
    obtain ⟨v, e1, e2⟩ := pf_5 (F := F) (num := num) (en := en) h h8 h10 h11 hv
    exact ⟨v, u, e1, EX_no (by decide) (by decide) (by decide), e2⟩
  | 6, _ =>
    obtain ⟨v, e1, e2⟩ := pf_6 (F := F) (num := num) (en := en) h h8 h10 h11 hv
    exact ⟨v, u, e1, EX_no (by decide) (by decide) (by decide), e2⟩
  | 7, _ =>
    obtain ⟨v, e1, e2⟩ := pf_7 (F := F) (num := num) (en := en) h h8 h10 h11 hv
    exact ⟨v, u, e1, EX_no (by decide) (by decide) (by decide), e2⟩
  | 8, _ =>
    obtain ⟨v, e1, e2⟩ := pf_8 (F := F) (num := num) (en := en) h h8 h10 h11 hv
    exact ⟨v, u, e1, EX_no (by decide) (by decide) (by decide), e2⟩
  | 9, _ =>
    obtain ⟨v, e1, e2⟩ := pf_9 (F := F) (num := num) (en := en) h h8 h10 h11 hv
    exact ⟨v, u, e1, EX_no (by decide) (by decide) (by decide), e2⟩
  | 10, _ =>
    obtain ⟨v, e1, e2⟩ := pf_10 (F := F) (num := num) (en := en) h h8 h10 h11 hv
    exact ⟨v, u, e1, EX_no (by decide) (by decide) (by decide), e2⟩
  | 11, _ =>
    obtain ⟨v, e1, e2⟩ := pf_11 (F := F) (num := num) (en := en) h h8 h10 h11 hv
    exact ⟨v, u, e1, EX_no (by decide) (by decide) (by decide), e2⟩
  | 12, _ =>
    obtain ⟨v, e1, e2⟩ := pf_12 (F := F) (num := num) (en := en) h h8 h10 h11 hv
    exact ⟨v, u, e1, EX_no (by decide) (by decide) (by decide), e2⟩
  | 13, _ =>
    obtain ⟨v, e1, e2⟩ := pf_13 (F := F) (num := num) (en := en) h h8 h10 h11 hv
    exact ⟨v, u, e1, EX_no (by decide) (by decide) (by decide), e2⟩
  | 14, _ =>
    obtain ⟨v, e1, e2⟩ := pf_14 (F := F) (num := num) (en := en) h h8 h10 h11 hv
    exact ⟨v, u, e1, EX_no (by decide) (by decide) (by decide), e2⟩
  | 15, _ =>
    obtain ⟨v, e1, e2⟩ := pf_15 (F := F) (num := num) (en := en) h h8 h10 h11 hv
    exact ⟨v, u, e1, EX_no (by decide) (by decide) (by decide), e2⟩
  | 16, _ =>
    obtain ⟨v, e1, e2⟩ := pf_16 (F := F) (num := num) (en := en) h h8 h10 h11 hv
    exact ⟨v, u, e1, EX_no (by decide) (by decide) (by decide), e2⟩
  | 17, _ =>
    obtain ⟨v, u', e1, e2, e3, e4⟩ := pf_17 (F := F) (a := a) (b := b) (c := c) (num := num) (en := en) (k := (-1, -1, -1)) h h10 h11 hd hd2 d8 hst h120 hC hC1 hF
    refine ⟨v, u', e1, ?_, e4⟩
    rcases e2 with ⟨q1, q2, q3⟩ | ⟨q1, q2⟩
    · exact Or.inl ⟨rfl, e3.mpr q1, q2, q3⟩
    · exact Or.inr (Or.inr (Or.inr ⟨fun z => q1 ⟨e3.mp z.2.1, z.2.2⟩, by decide, by decide, q2⟩))
  | 18, _ =>
    obtain ⟨v, e1, e2⟩ := pf_18 (F := F) (num := num) (en := en) h h8 h10 h11 hv hd hd2 d8 hst hF
    exact ⟨v, u, e1, EX_no (by decide) (by decide) (by decide), e2⟩
  | 19, _ =>
    have hW' := hW rfl
    obtain ⟨v, e1, e2⟩ := pf_19 (F := F) (a := a) (b := b) (c := c) (en := en) (W := W - 1) h h8 h10 hv ho hL (hL8 (Or.inl rfl)) (by rw [show W - 1 + 1 = W by omega]; exact hO)
    rw [hn19 rfl]
    exact ⟨v, _, e1, Or.inr (Or.inl ⟨rfl, rfl⟩), e2⟩
  | 20, _ =>
    obtain ⟨v, e1, e2⟩ := pf_20 (F := F) (a := a) (b := b) (c := c) (en := en) h h8 h10 hv ho hL (hL8 (Or.inr rfl))
    rw [hn20 rfl]
    exact ⟨v, _, e1, Or.inr (Or.inr (Or.inl ⟨rfl, rfl⟩)), e2⟩
  | 21, _ =>
    obtain ⟨v, e1, e2⟩ := pf_21 (F := F) (num := num) (en := en) h h8 h10 h11 hv h131
    exact ⟨v, u, e1, EX_no (by decide) (by decide) (by decide), e2⟩
  | 22, _ =>
    obtain ⟨v, e1, e2⟩ := pf_22 (F := F) (num := num) (en := en) h h8 h10 h11 hv
    exact ⟨v, u, e1, EX_no (by decide) (by decide) (by decide), e2⟩
  | k + 23, hk => omega
/-- the run, up to its time -/
def RunS (u : rg_U) (o T N : Nat) (R : Nat → Row) (l : Nat → Nat) : Prop := rF u o 9 = nI T ∧ T ≤ 3000 ∧ (∀ t, t ≤ T → SI u o R t) ∧ PI u (o + 12) T N ∧ ∀ t, t ≤ T → PRow u (o + 12) (cP (u.2.1 (o + 13)) t N) (R t) ∧ cP (u.2.1 (o + 13)) t N ≤ t + l t
theorem PI_all {q : Nat} (h : PI u q T N) : cP (u.2.1 (q + 1)) T N = N := cP_all fun n hn => by
  obtain ⟨s, p, hs, -, e, -⟩ := h.2.2.2.2.2 n hn
  have := h.2.2.1
  rw [e, tnn (by omega)]
  exact hs
theorem PI_up {q T' : Nat} (h : PI u q T N) (hT : T ≤ T') (h3 : T' ≤ 3000) : PI u q T' N := by
  obtain ⟨h1, h2, -, h4, h5, h6⟩ := h
  refine ⟨h1, h2, h3, h4, h5, fun n hn => ?_⟩
  obtain ⟨s, p, hs, r⟩ := h6 n hn
  exact ⟨s, p, by omega, r⟩
/-- what the step lays ahead of the order -/
def prepS (u : rg_U) (o T : Nat) (x y z w : Int32) : rg_U := rg_R (rg_R (rg_R (rg_R (sF u o 11 (-1)) (o + 30) (T + 1) x) (o + 31) (T + 1) y) (o + 32) (T + 1) z) (o + 33) (T + 1) w
theorem prepS_n {j : Nat} {x y z w : Int32} (h : j < o + 30 ∨ o + 33 < j) : (prepS u o T x y z w).2.1 j = u.2.1 j := by
  unfold prepS
  rw [R_n (by omega), R_n (by omega), R_n (by omega), R_n (by omega)]
  rfl
theorem prepS_f {i : Nat} {x y z w : Int32} (h : i ≠ 100 * o + 11) : (prepS u o T x y z w).1 i = u.1 i := sF_n h
theorem prepS_30 {x y z w : Int32} : (prepS u o T x y z w).2.1 (o + 30) = upd (u.2.1 (o + 30)) (T + 1) x := by
  unfold prepS
  rw [R_n (by omega), R_n (by omega), R_n (by omega), R_s]
  rfl
theorem prepS_31 {x y z w : Int32} : (prepS u o T x y z w).2.1 (o + 31) = upd (u.2.1 (o + 31)) (T + 1) y := by
  unfold prepS
  rw [R_n (by omega), R_n (by omega), R_s, R_n (by omega)]
  rfl
theorem prepS_32 {x y z w : Int32} : (prepS u o T x y z w).2.1 (o + 32) = upd (u.2.1 (o + 32)) (T + 1) z := by
  unfold prepS
  rw [R_n (by omega), R_s, R_n (by omega), R_n (by omega)]
  rfl
theorem prepS_33 {x y z w : Int32} : (prepS u o T x y z w).2.1 (o + 33) = upd (u.2.1 (o + 33)) (T + 1) w := by
  unfold prepS
  rw [R_s, R_n (by omega), R_n (by omega), R_n (by omega)]
  rfl
theorem FS_prep {x y z w : Int32} : FS u (prepS u o T x y z w) o := ⟨rfl, fun j hj => prepS_n (by omega), fun i hi => prepS_f (by omega)⟩
theorem MD_start {x : Int32} (h : RunS u o T N R l) (hT : T < 3000) : MD (prepS u o T x (R T 130) (R T 131) (u.2.1 (o + 33) T)) o T N R l (upd (R T) 120 x) := by
  obtain ⟨h1, h2, h3, h4, h5⟩ := h
  have hP := PI_up (T' := T + 1) h4 (by omega) (by omega)
  have h13 : ∀ j, o + 12 + 1 ≤ j → j ≤ o + 12 + 6 → (prepS u o T x (R T 130) (R T 131) (u.2.1 (o + 33) T)).2.1 j = u.2.1 j := fun j j1 j2 => prepS_n (by omega)
  refine ⟨(prepS_f (by omega)).trans h1, hT, fun t ht => ?_, PI_c hP (prepS_f (by omega)) h13 (prepS_n (by omega)), ?_, fun t ht => ?_⟩
  · rcases Nat.lt_or_ge T t with y | y
    · have et : t = T + 1 := by omega
      subst et
      obtain ⟨-, -, -, d, k1, k2, k3, k4⟩ := h3 T (Nat.le_refl _)
      unfold SI KI
      simp only [Rx_gt y]
      rw [prepS_30, prepS_31, prepS_32, prepS_33, pk_us, pk_us, pk_us, pk_us, pk_us, pk_un (show 130 ≠ 120 by decide), pk_un (show 131 ≠ 120 by decide), pk_un (show 121 ≠ 120 by decide)]
      refine ⟨rfl, rfl, rfl, d, k1, k2, k3, fun e he => ?_⟩
      obtain ⟨s, b1, b2, b3, b4, b5⟩ := k4 e he
      exact ⟨s, by omega, b2, by rw [pk_un (by omega), pk_un (by omega)]; exact b3, by rw [Rx_le (by omega)]; exact b4, fun i hi => by rw [Rx_le (by omega), pk_un (by omega)]; exact b5 i hi⟩
    · exact SI_c (h3 t y) (fun s hs => by rw [prepS_30, pk_un (by omega)]) (by rw [prepS_31, pk_un (by omega)]) (by rw [prepS_32, pk_un (by omega)]) (by rw [prepS_33, pk_un (by omega)]) (fun s hs => Rx_le (by omega))
  · have := (h5 T (Nat.le_refl _)).1
    rw [show o + 13 = o + 12 + 1 from rfl, PI_all h4] at this
    exact PRow_hi (PRow_c this h13) (by omega)
  · rw [show (prepS u o T x (R T 130) (R T 131) (u.2.1 (o + 33) T)).2.1 (o + 13) = u.2.1 (o + 13) from prepS_n (by omega)]
    exact ⟨PRow_c (h5 t ht).1 h13, (h5 t ht).2⟩
/-- the step up to its order -/
theorem c_prep {cn : Nat} (h : RunS u o T N R l) (hT : T < 3000) (hc : R T 120 = nI cn) (hcn : cn ≤ 64) : g_X7_step F o u = ob (g_X8_perform F o (nI cn) (prepS u o T (imin 64 (R T 120 + 1)) (R T 130) (R T 131) (u.2.1 (o + 33) T))) (fun r37 => if r37.1 = 0 then g_X7_step_j121 F o (nI (T + 1)) r37.2 else lt1 (sF r37.2 o 10 (10 + r37.1)) (fun u53 => g_X7_step_j121 F o (nI (T + 1)) u53)) := by
  obtain ⟨h1, h2, h3, h4, h5⟩ := h
  obtain ⟨s1, s2, s3, -⟩ := h3 T (Nat.le_refl _)
  have hi : inb (nI (T + 1)) 3001 := inb_nI (by omega) (by decide)
  have hj : inb (nI T) 3001 := inb_nI (by omega) (by decide)
  have e9 : rF (sF u o 11 (-1)) o 9 = nI T := (sF_n (by omega)).trans h1
  have em : imin (R T 120 + 1) 64 = imin 64 (R T 120 + 1) := by
    rw [hc, nI_1]
    unfold imin
    by_cases q : cn = 64
    · subst q; decide
    · rw [if_neg (show ¬ (64 : Int32) < nI (cn + 1) from nI_nlt (a := 64) (b := cn + 1) (by omega) (by decide))]
      by_cases q2 : cn = 63
      · subst q2; decide
      · rw [if_pos (show nI (cn + 1) < 64 from nI_lt (a := cn + 1) (b := 64) (by omega) (by decide))]
  unfold g_X7_step
  rw [h1, if_neg (nI_pos (by omega)), nI_1, if_pos (show nI (T + 1) ≤ 3000 from nI_le (a := T + 1) (b := 3000) (by omega) (by decide)), lt1_i, e9, ck_t hj, ck_t hi, lt1_i, rA_nI (by omega), show (sF u o 11 (-1)).2.1 (o + 30) T = u.2.1 (o + 30) T from rfl, s1, em, sA_nI (k := T + 1) (by omega)]
  generalize ex : imin 64 (R T 120 + 1) = x
  have e9a : rF (rg_R (sF u o 11 (-1)) (o + 30) (T + 1) x) o 9 = nI T := e9
  rw [e9a, ck_t hj, ck_t hi, lt1_i, rA_nI (by omega), R_n (show o + 31 ≠ o + 30 by omega), show (sF u o 11 (-1)).2.1 (o + 31) T = u.2.1 (o + 31) T from rfl, s2, sA_nI (k := T + 1) (by omega)]
  have e9b : rF (rg_R (rg_R (sF u o 11 (-1)) (o + 30) (T + 1) x) (o + 31) (T + 1) (R T 130)) o 9 = nI T := e9
  rw [e9b, ck_t hj, ck_t hi, lt1_i, rA_nI (by omega), R_n (show o + 32 ≠ o + 31 by omega), R_n (show o + 32 ≠ o + 30 by omega), show (sF u o 11 (-1)).2.1 (o + 32) T = u.2.1 (o + 32) T from rfl, s3, sA_nI (k := T + 1) (by omega)]
  have e9c : rF (rg_R (rg_R (rg_R (sF u o 11 (-1)) (o + 30) (T + 1) x) (o + 31) (T + 1) (R T 130)) (o + 32) (T + 1) (R T 131)) o 9 = nI T := e9
  rw [e9c, ck_t hj, ck_t hi, lt1_i, rA_nI (by omega), R_n (show o + 33 ≠ o + 32 by omega), R_n (show o + 33 ≠ o + 31 by omega), R_n (show o + 33 ≠ o + 30 by omega), show (sF u o 11 (-1)).2.1 (o + 33) T = u.2.1 (o + 33) T from rfl, sA_nI (k := T + 1) (by omega)]
  have e9d : rF (rg_R (rg_R (rg_R (rg_R (sF u o 11 (-1)) (o + 30) (T + 1) x) (o + 31) (T + 1) (R T 130)) (o + 32) (T + 1) (R T 131)) (o + 33) (T + 1) (u.2.1 (o + 33) T)) o 9 = nI T := e9
  rw [e9d, ck_t hj, rA_nI (by omega)]
  have e30 : (rg_R (rg_R (rg_R (rg_R (sF u o 11 (-1)) (o + 30) (T + 1) x) (o + 31) (T + 1) (R T 130)) (o + 32) (T + 1) (R T 131)) (o + 33) (T + 1) (u.2.1 (o + 33) T)).2.1 (o + 30) T = nI cn := by
    show (prepS u o T x (R T 130) (R T 131) (u.2.1 (o + 33) T)).2.1 (o + 30) T = _
    rw [prepS_30, pk_un (by omega), s1, hc]
  rw [e30]
  rfl
end XR
end W_65
section W_66
-- 97zza.rel
/-! the class and the reference: a run on both sides -/
def LG (u : rg_U) (o n : Nat) (L : Lg) : Prop := rF u (o + 6) 5 = nI n ∧ ∀ k, k < n → u.2.1 (o + 7) k = L.1 k ∧ u.2.1 (o + 8) k = L.2.1 k ∧ u.2.1 (o + 9) k = L.2.2.1 k ∧ u.2.1 (o + 10) k = L.2.2.2.1 k ∧ u.2.1 (o + 11) k = L.2.2.2.2 k
def CG (u um : rg_U) (o r : Nat) : Prop := rF u (o + 24) 3 = nI (Cr um r) ∧ ∀ i, i < Cr um r → u.2.1 (o + 25) i = um.2.1 16 (100 * r + i) ∧ u.2.1 (o + 26) i = um.2.1 17 (100 * r + i) ∧ u.2.1 (o + 27) i = um.2.1 18 (100 * r + i)
/-- what is held is held still -/
def HB (um : rg_U) (r : Nat) : Prop := ∀ k, k ≤ 3000 → ¬ Hm um r k = 0 → k = 0 ∨ (k ≤ Tr um r / Ur um r ∧ Tr um r / Ur um r < gw k (Dr um r))
def RR (pB : Prop) (u um : rg_U) (o r : Nat) : Prop := PG u o (Pm um r) ∧ LG u o (nr um r) (Lm um r) ∧ CG u um o r ∧ HI u (o + 28) (Hm um r) (Ur um r) (Dr um r) ∧ HB um r ∧ (rF u (o + 28) 2 = um.2.1 26 r ∧ rF u o 10 = (rpm um r (Tr um r)).1 132 ∧ (pB → rF u o 12 = um.2.1 25 r) ∧ rF u o 13 = um.2.1 27 r) ∧ ∃ N, RunS u o (Tr um r) N (fun t => (rpm um r t).1) (fun t => (rpm um r t).2)
def OutR (u um : rg_U) (W : Nat) : Prop := ∃ A, okO9 u A W ∧ (∀ i, i < W → wt9 u A i = um.2.1 29 i) ∧ rF u 6 3 = um.1 34
section XT
variable {pB : Prop} {F o r T N : Nat} {R R' : Nat → Row} {l l' : Nat → Nat} {u u' um um' : rg_U}
theorem RunS_c (h : RunS u o T N R l) (hR : ∀ t, t ≤ T → R' t = R t) (hl : ∀ t, t ≤ T → l' t = l t) : RunS u o T N R' l' := by
  obtain ⟨h1, h2, h3, h4, h5⟩ := h
  refine ⟨h1, h2, fun t ht => SI_c (h3 t ht) (fun _ _ => rfl) rfl rfl rfl (fun s hs => hR s (by omega)), h4, fun t ht => ?_⟩
  rw [hR t ht, hl t ht]
  exact h5 t ht
theorem RunS_f (h : RunS u o T N R l) (ha : ∀ j, o < j → j ≤ o + 33 → u'.2.1 j = u.2.1 j) (hf : ∀ k, 100 * o ≤ k → k < 100 * (o + 34) → u'.1 k = u.1 k) : RunS u' o T N R l := by
  obtain ⟨h1, h2, h3, h4, h5⟩ := h
  refine ⟨(hf _ (by omega) (by omega)).trans h1, h2, fun t ht => SI_c (h3 t ht) (fun s _ => by rw [ha (o + 30) (by omega) (by omega)]) (by rw [ha (o + 31) (by omega) (by omega)]) (by rw [ha (o + 32) (by omega) (by omega)]) (by rw [ha (o + 33) (by omega) (by omega)]) (fun _ _ => rfl), PI_c h4 (hf _ (by omega) (by omega)) (fun j j1 j2 => ha j (by omega) (by omega)) (ha _ (by omega) (by omega)), fun t ht => ?_⟩
  rw [ha (o + 13) (by omega) (by omega)]
  exact ⟨PRow_c (h5 t ht).1 (fun j j1 j2 => ha j (by omega) (by omega)), (h5 t ht).2⟩
/-- the run asks for what is its own alone -/
theorem RR_f (h : RR pB u um o r) (ha : ∀ j, o < j → j ≤ o + 33 → u'.2.1 j = u.2.1 j) (hf : ∀ k, 100 * o ≤ k → k < 100 * (o + 34) → u'.1 k = u.1 k) : RR pB u' um o r := by
  obtain ⟨h1, h2, h3, h4, h5, ⟨h6, h7, h8, h9⟩, N, h10⟩ := h
  refine ⟨fun k hk => ?_, ⟨(hf _ (by omega) (by omega)).trans h2.1, fun k hk => ?_⟩, ⟨(hf _ (by omega) (by omega)).trans h3.1, fun k hk => ?_⟩, HI_c h4 (hf _ (by omega) (by omega)) (hf _ (by omega) (by omega)) (hf _ (by omega) (by omega)) (ha _ (by omega) (by omega)), h5, ⟨(hf _ (by omega) (by omega)).trans h6, (hf _ (by omega) (by omega)).trans h7, fun hb => (hf _ (by omega) (by omega)).trans (h8 hb), (hf _ (by omega) (by omega)).trans h9⟩, N, RunS_f h10 ha hf⟩
  · rw [ha (o + 2) (by omega) (by omega), ha (o + 3) (by omega) (by omega), ha (o + 4) (by omega) (by omega), ha (o + 5) (by omega) (by omega)]; exact h1 k hk
  · rw [ha (o + 7) (by omega) (by omega), ha (o + 8) (by omega) (by omega), ha (o + 9) (by omega) (by omega), ha (o + 10) (by omega) (by omega), ha (o + 11) (by omega) (by omega)]; exact h2.2 k hk
  · rw [ha (o + 25) (by omega) (by omega), ha (o + 26) (by omega) (by omega), ha (o + 27) (by omega) (by omega)]; exact h3.2 k hk
/-- the reference's run is the same -/
theorem RR_g (h : RR pB u um o r) (hC : Cr um r ≤ 100) (hg : agR um um' r) : RR pB u um' o r := by
  obtain ⟨h1, h2, h3, h4, h5, ⟨h6, h7, h8, h9⟩, N, h10⟩ := h
  obtain ⟨e1, e2, e3, e4, e5⟩ := sc_g hg
  have eR : ∀ t, rpm um' r t = rpm um r t := fun t => rpm_g hg
  have hs := hg.2.2.1
  unfold RR CG HB
  rw [Pm_g hg, Lm_g hg, Hm_g hg, e1, e2, e3, e4, e5, eR, hs 25 (Or.inr (Or.inr (by decide))), hs 26 (Or.inr (Or.inr (by decide))), hs 27 (Or.inr (Or.inr (by decide)))]
  refine ⟨h1, h2, ⟨h3.1, fun i hi => ?_⟩, h4, h5, ⟨h6, h7, h8, h9⟩, N, RunS_c h10 (fun t _ => by rw [eR]) (fun t _ => by rw [eR])⟩
  rw [hg.2.2.2.1 16 (by decide) (by decide) i (by omega), hg.2.2.2.1 17 (by decide) (by decide) i (by omega), hg.2.2.2.1 18 (by decide) (by decide) i (by omega)]
  exact h3.2 i hi
/-- only what goes along and lies aside is other on the reference's side -/
theorem agR_e (h : coreEq um um') : agR um um' r := agR_A (fun j h1 h2 => h.1 j (by omega))
theorem RR_e (h : RR pB u um o r) (hC : Cr um r ≤ 100) (he : coreEq um um') : RR pB u um' o r := RR_g h hC (agR_e he)
/-- what is counted as replayed, on both sides -/
theorem RR_cS {x : Int32} (h : RR pB u um o r) (ho : 100 ≤ o) : RR pB (sF (sF u o 12 (rF u o 12 + x)) 0 13 (rF u 0 13 + x)) (cS um r x) o r := by
  have hA : ∀ j, j ≠ 25 → (cS um r x).2.1 j = um.2.1 j := fun j hj => by
    show va_up um.2.1 25 _ j = _
    exact pm_up_n hj
  have e25 : (cS um r x).2.1 25 r = um.2.1 25 r + x := by
    show va_up um.2.1 25 (upd (um.2.1 25) r (um.2.1 25 r + x)) 25 r = _
    rw [pm_up_s, pk_us]
  have hP : Pm (cS um r x) r = Pm um r := by
    unfold Pm
    rw [hA 6 (by decide), hA 7 (by decide), hA 8 (by decide), hA 9 (by decide)]
  have hL : Lm (cS um r x) r = Lm um r := by
    unfold Lm
    rw [hA 10 (by decide), hA 11 (by decide), hA 12 (by decide), hA 13 (by decide), hA 14 (by decide)]
  have hH : Hm (cS um r x) r = Hm um r := by
    unfold Hm
    rw [hA 20 (by decide)]
  have h0 : RR pB (sF (sF u o 12 (rF u o 12 + x)) 0 13 (rF u 0 13 + x)) (cS um r x) o r ↔ RR pB (sF (sF u o 12 (rF u o 12 + x)) 0 13 (rF u 0 13 + x)) (cS um r x) o r := Iff.rfl
  obtain ⟨h1, h2, h3, h4, h5, ⟨h6, h7, h8, h9⟩, N, h10⟩ := h
  have hf : ∀ k, k ≠ 100 * o + 12 → k ≠ 13 → (sF (sF u o 12 (rF u o 12 + x)) 0 13 (rF u 0 13 + x)).1 k = u.1 k := fun k k1 k2 => by rw [sF_n (by omega), sF_n k1]
  unfold RR CG HB nr Cr Ur Dr Tr
  rw [hP, hL, hH, hA 15 (by decide), hA 19 (by decide), hA 23 (by decide), hA 24 (by decide), hA 21 (by decide), hA 26 (by decide), hA 27 (by decide), hA 16 (by decide), hA 17 (by decide), hA 18 (by decide), e25, rpm_cS]
  refine ⟨h1, ⟨(hf _ (by omega) (by omega)).trans h2.1, h2.2⟩, ⟨(hf _ (by omega) (by omega)).trans h3.1, h3.2⟩, HI_c h4 (hf _ (by omega) (by omega)) (hf _ (by omega) (by omega)) (hf _ (by omega) (by omega)) rfl, h5, ⟨(hf _ (by omega) (by omega)).trans h6, (hf _ (by omega) (by omega)).trans h7, ?_, (hf _ (by omega) (by omega)).trans h9⟩, N, ?_⟩
  · intro hb
    show (sF (sF u o 12 (rF u o 12 + x)) 0 13 (rF u 0 13 + x)).1 (100 * o + 12) = _
    rw [sF_n (by omega)]
    show rF (sF u o 12 (rF u o 12 + x)) o 12 = _
    rw [sF_y, h8 hb]
  · obtain ⟨a1, a2, a3, a4, a5⟩ := h10
    exact RunS_c (R := fun t => (rpm um r t).1) (l := fun t => (rpm um r t).2) ⟨(hf _ (by omega) (by omega)).trans a1, a2, a3, PI_c a4 (hf _ (by omega) (by omega)) (fun _ _ _ => rfl) rfl, a5⟩ (fun t _ => by rw [rpm_cS]) (fun t _ => by rw [rpm_cS])
end XT
end W_66
