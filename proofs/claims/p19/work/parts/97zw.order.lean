/-! the class: what an order does -/
def CHG (v : rg_U) (o : Nat) (m m' : Row) : Prop := (rF v o 11 = -1 ∧ ∀ p, p < 40 → m' (80 + p) = m (80 + p)) ∨ ∃ p, p < 40 ∧ rF v o 11 = nI p ∧ m' (80 + p) = m (80 + p) + 1 ∧ ∀ p', p' < 40 → p' ≠ p → m' (80 + p') = m (80 + p')
/-- what is known of the put of a step -/
def PX (u v : rg_U) (o T N N' : Nat) (e a b q : Int32) : Prop := (∀ j n, o + 13 ≤ j → j ≤ o + 22 → n < N → v.2.1 j n = u.2.1 j n) ∧ ((N' = N ∧ q = -1) ∨ (N' = N + 1 ∧ q = v.2.1 (o + 14) N ∧ v.2.1 (o + 19) N = nI T ∧ v.2.1 (o + 20) N = e ∧ v.2.1 (o + 21) N = a ∧ v.2.1 (o + 22) N = b ∧ v.2.1 (o + 13) N = nI (T + 1)))
/-- u with the row m behind T comes to v with the row z.1; what is looked at is k -/
def PO (u v : rg_U) (o T N : Nat) (R : Nat → Row) (l : Nat → Nat) (m : Row) (z : MSt) (k : Int32 × Int32 × Int32) : Prop := ∃ N', MD v o T N' R l z.1 ∧ FS u v o ∧ (z.2.1 = 0 → rF v o 10 = z.1 132) ∧ (¬ z.2.1 = 0 → z.1 132 = 10 + z.2.1) ∧ CHG v o m z.1 ∧ PX u v o T N N' k.1 k.2.1 k.2.2 z.2.2.2
section XO
variable {F o T N p : Nat} {R : Nat → Row} {l : Nat → Nat} {m : Row} {u : rg_U} {x s n a b c e : Int32} {k : Int32 × Int32 × Int32}
theorem PX_no {v : rg_U} {x y z : Int32} (h : ∀ j, o + 13 ≤ j → j ≤ o + 22 → v.2.1 j = u.2.1 j) : PX u v o T N N x y z (-1) := ⟨fun j n j1 j2 _ => by rw [h j j1 j2], Or.inl ⟨rfl, rfl⟩⟩
theorem po_trap {t : Int32} (h : MD u o T N R l m) (h11 : rF u o 11 = -1) (ht : ¬ t = 0) : PO u u o T N R l m (mtrp m t) k := ⟨N, MD_hi h _, FS_r, fun z => absurd z ht, fun _ => (show upd m 132 (10 + t) 132 = 10 + t from pk_us), Or.inl ⟨h11, fun p hp => pk_un (by omega)⟩, PX_no fun _ _ _ => rfl⟩
theorem po_end (h : MD u o T N R l m) (h11 : rF u o 11 = -1) : PO u (sF u o 10 2) o T N R l m (upd m 132 2, 0, -1, -1) k := by
  refine ⟨N, MD_hi (MD_c h (sF_n (by omega)) (sF_n (by omega)) (fun _ _ _ _ => rfl) (fun _ _ _ => rfl)) _, FS_10, fun _ => by dsimp only; rw [sF_y, pk_us], fun z => absurd rfl z, Or.inl ⟨?_, fun p hp => pk_un (by omega)⟩, PX_no fun _ _ _ => rfl⟩
  rw [← h11]
  exact sF_n (by omega)
theorem po_goOn (h : MD u o T N R l m) (h10 : rF u o 10 = m 132) (h11 : rF u o 11 = -1) : PO u (rg_R u (o + 30) (T + 1) x) o T N R l m (upd m 120 x, 0, -1, -1) k := ⟨N, MD_goOn h, FS_R FS_r (by omega), fun _ => by show rF u o 10 = _; dsimp only; rw [h10, pk_un (by decide)], fun z => absurd rfl z, Or.inl ⟨h11, fun p hp => pk_un (by omega)⟩, PX_no fun j j1 j2 => R_n (by omega)⟩
theorem po_no (h : MD u o T N R l m) (h10 : rF u o 10 = m 132) (h11 : rF u o 11 = -1) : PO u u o T N R l m (m, 0, -1, -1) k := ⟨N, h, FS_r, fun _ => h10, fun z => absurd rfl z, Or.inl ⟨h11, fun p hp => rfl⟩, PX_no fun _ _ _ => rfl⟩
theorem FS_R2 {v : rg_U} {j i : Nat} {x : Int32} (h : FS u v o) (hj : o + 12 ≤ j ∧ (j ≤ o + 23 ∨ (o + 30 ≤ j ∧ j ≤ o + 33))) : FS u (rg_R v j i x) o := FS_t h (FS_R FS_r hj)
theorem po_out (h : MD u o T N R l m) (h10 : rF u o 10 = m 132) (h11 : rF u o 11 = -1) : PO u (rg_R (rg_R u (o + 31) (T + 1) x) (o + 32) (T + 1) s) o T N R l m (upd (upd m 130 x) 131 s, 0, -1, -1) k := ⟨N, MD_out h, FS_R2 (FS_R FS_r (by omega)) (by omega), fun _ => by show rF u o 10 = _; dsimp only; rw [h10, pk_un (by decide), pk_un (by decide)], fun z => absurd rfl z, Or.inl ⟨h11, fun p hp => by dsimp only; rw [pk_un (by omega), pk_un (by omega)]⟩, PX_no fun j j1 j2 => by rw [R_n (by omega), R_n (by omega)]⟩
theorem po_up {d : Nat} (h : MD u o T N R l m) (h10 : rF u o 10 = m 132) (h11 : rF u o 11 = -1) (hd : R T 121 = nI d) (d8 : d < 8) (h120 : m 120 = R T 120 + 1) (hst : ∀ i, i < d → m (122 + i) = R T (122 + i)) : PO u (rg_R (rg_R u (o + 33) (T + 1) (nI T)) (o + 30) (T + 1) x) o T N R l m (upd (upd (upd m (122 + d) (m 120)) 121 (nI (d + 1))) 120 x, 0, -1, -1) k := by
  have h1 := MD_33 h (SI_up h.2.2.1 hd d8 h120 hst) (fun p hp => by rw [pk_un (by omega), pk_un (by omega)])
  exact ⟨N, MD_goOn h1, FS_R2 (FS_R FS_r (by omega)) (by omega), fun _ => by show rF u o 10 = _; dsimp only; rw [h10, pk_un (by decide), pk_un (by decide), pk_un (by omega)], fun z => absurd rfl z, Or.inl ⟨h11, fun p hp => by dsimp only; rw [pk_un (by omega), pk_un (by omega), pk_un (by omega)]⟩, PX_no fun j j1 j2 => by rw [R_n (by omega), R_n (by omega)]⟩
theorem po_down {d s : Nat} (h : MD u o T N R l m) (h10 : rF u o 10 = m 132) (h11 : rF u o 11 = -1) (hs : s < T) (d8 : d < 8) (hd : R s 121 = nI d) (hst : ∀ i, i < d → R s (122 + i) = m (122 + i)) : PO u (rg_R (rg_R u (o + 30) (T + 1) x) (o + 33) (T + 1) (u.2.1 (o + 33) s)) o T N R l m (upd (upd m 121 (nI d)) 120 x, 0, -1, -1) k := by
  have h0 := MD_goOn (x := x) h
  have h1 := MD_33 h0 (SI_down h0.2.2.1 hs d8 hd (fun i hi => by rw [pk_un (by omega)]; exact hst i hi)) (fun p hp => pk_un (by omega))
  rw [R_n (show o + 33 ≠ o + 30 by omega)] at h1
  have e : upd (upd m 120 x) 121 (nI d) = upd (upd m 121 (nI d)) 120 x := by
    funext i
    unfold upd
    by_cases q : i = 121
    · subst q; rfl
    · rw [if_neg q, if_neg q]
  rw [e] at h1
  exact ⟨N, h1, FS_R2 (FS_R FS_r (by omega)) (by omega), fun _ => by show rF u o 10 = _; dsimp only; rw [h10, pk_un (by decide), pk_un (by decide)], fun z => absurd rfl z, Or.inl ⟨h11, fun p hp => by dsimp only; rw [pk_un (by omega), pk_un (by omega)]⟩, PX_no fun j j1 j2 => by rw [R_n (by omega), R_n (by omega)]⟩
theorem putS_19 : (putS u o T N p s n e a b).2.1 (o + 19) N = nI T := by
  unfold putS restS
  rw [R_n (by omega), R_n (by omega), R_n (by omega), show o + 19 = o + 12 + 7 from rfl, R_s, pk_us]
theorem putS_20 : (putS u o T N p s n e a b).2.1 (o + 20) N = e := by
  unfold putS restS
  rw [R_n (by omega), R_n (by omega), show o + 20 = o + 12 + 8 from rfl, R_s, pk_us]
theorem putS_21 : (putS u o T N p s n e a b).2.1 (o + 21) N = a := by
  unfold putS restS
  rw [R_n (by omega), show o + 21 = o + 12 + 9 from rfl, R_s, pk_us]
theorem putS_22 : (putS u o T N p s n e a b).2.1 (o + 22) N = b := by
  unfold putS restS
  rw [show o + 22 = o + 12 + 10 from rfl, R_s, pk_us]
theorem putS_13 : (putS u o T N p s n e a b).2.1 (o + 13) N = nI (T + 1) := by
  unfold putS
  rw [restS_n (by omega), show o + 13 = o + 12 + 1 from rfl, addS_1, pk_us]
theorem putS_14 : (putS u o T N p s n e a b).2.1 (o + 14) N = nI p := by
  unfold putS
  rw [restS_n (by omega), show o + 14 = o + 12 + 2 from rfl, addS_2, pk_us]
theorem putS_old {j i : Nat} (j1 : o + 13 ≤ j) (j2 : j ≤ o + 22) (hi : i < N) : (putS u o T N p s n e a b).2.1 j i = u.2.1 j i := by
  unfold putS restS addS
  simp only [R_at, sF_A]
  rw [if_neg (by omega), if_neg (by omega), if_neg (by omega), if_neg (by omega), if_neg (by omega), if_neg (by omega), if_neg (by omega), if_neg (by omega), if_neg (by omega), if_neg (by omega), if_neg (by omega)]
theorem CHG_put {v : rg_U} (hp : p < 40) (h : rF v o 11 = if m p = s ∧ m (40 + p) = n then -1 else nI p) : CHG v o m (mput m p s n) := by
  have e : ∀ p', p' < 40 → mput m p s n (80 + p') = if p' = p then m (80 + p) + (if m p = s ∧ m (40 + p) = n then 0 else 1) else m (80 + p') := fun p' hp' => by
    unfold mput
    rw [pk_un (by omega), pk_un (by omega)]
    by_cases q : p' = p
    · rw [if_pos q, q, pk_us]
    · rw [if_neg q, pk_un (by omega)]
  by_cases q : m p = s ∧ m (40 + p) = n
  · rw [if_pos q] at h
    refine Or.inl ⟨h, fun p' hp' => ?_⟩
    rw [e p' hp', if_pos q]
    by_cases z : p' = p
    · rw [if_pos z, z, Int32.add_zero]
    · rw [if_neg z]
  · rw [if_neg q] at h
    refine Or.inr ⟨p, hp, h, ?_, fun p' hp' z => ?_⟩
    · rw [e p hp, if_pos rfl, if_neg q]
    · rw [e p' hp', if_neg z]
theorem putS_10 : rF (putS u o T N p s n e a b) o 10 = rF u o 10 := by
  show (addS u (o + 12) N p _ s n _ _).1 (100 * o + 10) = _
  rw [addS_f (by omega)]
  rfl
theorem po_put {en : Int32} (h : MD u o T N R l m) (h8 : N < 3800) (hp : p < 40) (h10 : rF u o 10 = m 132) : PO u (sF (putS u o T N p s n e a b) o 11 (if m p = s ∧ m (40 + p) = n then -1 else nI p)) o T N R l m (mput m p s n, 0, en, nI p) (e, a, b) := by
  refine ⟨N + 1, MD_c (MD_put h h8 hp) (sF_n (by omega)) (sF_n (by omega)) (fun _ _ _ _ => rfl) (fun _ _ _ => rfl), FS_t FS_put FS_11, fun _ => ?_, fun z => absurd rfl z, CHG_put hp sF_y, fun j i j1 j2 hi => putS_old j1 j2 hi, Or.inr ⟨rfl, putS_14.symm, putS_19, putS_20, putS_21, putS_22, putS_13⟩⟩
  show (sF (putS u o T N p s n e a b) o 11 _).1 (100 * o + 10) = _
  rw [sF_n (by omega)]
  exact putS_10.trans (h10.trans (mput_h2 hp (by omega)).symm)
theorem po_put2 {en q : Int32} {z : MSt} (h : MD u o T N R l m) (h8 : N < 3800) (hp : p < 40) (h10 : rF u o 10 = m 132) (hz : z = (mput m p s n, 0, en, nI p)) : ∃ v, g_X7_putByStep F o (nI p) s n a b u = some v ∧ z.2.1 = 0 ∧ PO u v o T N R l m z (-1, a, b) := by
  subst hz
  exact ⟨_, c_put h h8 hp, rfl, po_put h h8 hp h10⟩
def perfK (F : Nat) (o0 : Nat) (r1 r3 r5 r7 : Int32) (u : rg_U) : Option (Int32 × rg_U) :=
  if r1 = (-1) then (some (5, u)) else if r1 = 0 then (lt1 (sF u o0 10 2) (fun u11 => some (0, u11))) else if r1 = 1 then (ob (g_X7_putByStep F o0 r3 2 r5 (-1) (-1) u) (fun r17 => some (0, r17))) else if r1 = 2 then (ob (g_X7_putByStep F o0 r3 1 r5 (-1) (-1) u) (fun r23 => some (0, r23))) else if r1 = 3 then (ob (g_X6_latestOf F (o0 + 12) r5 u) (fun r29 => ob (g_X8_copy F o0 r3 r29 u) (fun r31 => some (0, r31)))) else if r1 = 10 then (ob (g_X6_latestOf F (o0 + 12) r5 u) (fun r37 => ob (g_X6_latestOf F (o0 + 12) r7 u) (fun r39 => ob (g_X8_compare F o0 r3 r37 r39 u) (fun r41 => some (0, r41))))) else if r1 = 11 then (ob (g_X6_latestOf F (o0 + 12) r5 u) (fun r47 => ob (g_X8_combine F o0 r3 r47 (-1) r1 u) (fun r49 => some (r49.1, r49.2)))) else if r1 = 12 then (ob (g_X6_latestOf F (o0 + 12) r5 u) (fun r55 => ob (g_X6_latestOf F (o0 + 12) r7 u) (fun r57 => ob (g_X8_combine F o0 r3 r55 r57 r1 u) (fun r59 => some (r59.1, r59.2))))) else if r1 = 13 then (ob (g_X6_latestOf F (o0 + 12) r5 u) (fun r65 => ob (g_X8_fromCell F o0 r3 r65 u) (fun r67 => some (r67.1, r67.2)))) else if r1 = 14 then (ob (g_X6_latestOf F (o0 + 12) r3 u) (fun r73 => ob (g_X6_latestOf F (o0 + 12) r5 u) (fun r75 => ob (g_X8_toCell F o0 r73 r75 u) (fun r77 => some (r77.1, r77.2))))) else if r1 = 15 then (ob (g_X7_goOnAt F o0 r3 u) (fun r83 => some (0, r83))) else if r1 = 16 then (ob (g_X6_latestOf F (o0 + 12) r3 u) (fun r89 => ob (g_X8_goOnIf F o0 r89 r5 u) (fun r91 => some (r91.1, r91.2)))) else if r1 = 17 then (ob (g_X8_goDown F o0 r3 u) (fun r97 => some (r97.1, r97.2))) else if r1 = 18 then (ob (g_X8_goUp F o0 u) (fun r103 => some (0, r103))) else if r1 = 19 then (ob (g_X4_takeFirst F u) (fun r109 => ob (g_X7_putFromOutside F o0 r3 0 r109.1 r109.2) (fun r114 => some (0, r114)))) else if r1 = 20 then (ob (g_X4_draw F r5 u) (fun r120 => ob (g_X7_putFromOutside F o0 r3 1 r120.1 r120.2) (fun r125 => some (0, r125)))) else if r1 = 21 then (ob (g_X6_latestOf F (o0 + 12) r3 u) (fun r131 => ob (g_X8_putOut F o0 r131 u) (fun r133 => some (0, r133)))) else if r1 = 22 then (ob (g_X7_putByStep F o0 r3 0 0 (-1) (-1) u) (fun r139 => some (0, r139))) else (g_X8_perform_j405 F o0 r1 r3 r5 r7 u)
/-- the program of the run in which the class's is -/
def PG (u : rg_U) (o : Nat) (P : Prg) : Prop := ∀ k, k < 64 → u.2.1 (o + 2) k = P.1 k ∧ u.2.1 (o + 3) k = P.2.1 k ∧ u.2.1 (o + 4) k = P.2.2.1 k ∧ u.2.1 (o + 5) k = P.2.2.2 k
theorem x5_kind {P : Prg} {cn : Nat} (h : PG u o P) (hc : cn ≤ 64) : g_X5_kindAt F (o + 1) (nI cn) u = some (kindOf P (nI cn)) := by
  unfold g_X5_kindAt kindOf
  by_cases q : cn < 64
  · rw [if_neg (ipl_nI q), ck_t (inb_nI q (by decide)), rA_nI (by omega), if_pos (show nI cn < 64 from nI_lt (a := cn) (b := 64) q (by decide)), tnn (by omega), show o + 1 + 1 = o + 2 from rfl, (h cn q).1]
  · have e : cn = 64 := by omega
    subst e
    rw [if_pos (by decide), if_neg (by decide)]
theorem x8_perf {P : Prg} {cn : Nat} (h : PG u o P) (hc : cn < 64) : g_X8_perform F o (nI cn) u = perfK F o (P.1 cn) (P.2.1 cn) (P.2.2.1 cn) (P.2.2.2 cn) u := by
  have h1 : g_X5_kindAt F (o + 1) (nI cn) u = some (P.1 cn) := by
    rw [x5_kind h (by omega)]
    unfold kindOf
    rw [if_pos (show nI cn < 64 from nI_lt (a := cn) (b := 64) hc (by decide)), tnn (by omega)]
  have h2 : g_X5_firstAt F (o + 1) (nI cn) u = some (P.2.1 cn) := by
    unfold g_X5_firstAt
    rw [if_neg (ipl_nI hc), ck_t (inb_nI hc (by decide)), rA_nI (by omega), show o + 1 + 2 = o + 3 from rfl, (h cn hc).2.1]
  have h3 : g_X5_secondAt F (o + 1) (nI cn) u = some (P.2.2.1 cn) := by
    unfold g_X5_secondAt
    rw [if_neg (ipl_nI hc), ck_t (inb_nI hc (by decide)), rA_nI (by omega), show o + 1 + 3 = o + 4 from rfl, (h cn hc).2.2.1]
  have h4 : g_X5_thirdAt F (o + 1) (nI cn) u = some (P.2.2.2 cn) := by
    unfold g_X5_thirdAt
    rw [if_neg (ipl_nI hc), ck_t (inb_nI hc (by decide)), rA_nI (by omega), show o + 1 + 4 = o + 5 from rfl, (h cn hc).2.2.2]
  unfold g_X8_perform
  rw [h1, ob_i, h2, ob_i, h3, ob_i, h4, ob_i]
  rfl
theorem x8_out {cn : Nat} (hc : ¬ cn < 64) (h64 : cn ≤ 64) : g_X8_perform F o (nI cn) u = some (5, u) := by
  have e : cn = 64 := by omega
  subst e
  unfold g_X8_perform g_X5_kindAt g_X5_firstAt g_X5_secondAt g_X5_thirdAt
  rw [if_pos (by decide), if_pos (by decide), if_pos (by decide), if_pos (by decide), ob_i, ob_i, ob_i, ob_i, if_pos rfl]
theorem pf_1 {num en : Int32} (h : MD u o T N R l m) (h8 : N < 3800) (h10 : rF u o 10 = m 132) (h11 : rF u o 11 = -1) (hv : ¬ g_X10_isFine (nI 1) a b c = 0) : ∃ v, perfK F o (nI 1) a b c u = some ((mdo m 1 a b c num en).2.1, v) ∧ PO u v o T N R l m (mdo m 1 a b c num en) (-1, -1, -1) := by
  obtain ⟨fa, fb, fc⟩ := fine_abc (k := 1) (by decide) hv
  unfold perfK
  rw [if_neg (by decide), if_neg (by decide), if_pos (by decide)]
  obtain ⟨pa, hpa, rfl⟩ := reg_of (x := a) fa
  rw [c_put h h8 (by omega), ob_i]
  exact ⟨_, rfl, by rw [show mdo m 1 (nI pa) b c num en = (mput m pa 2 b, 0, -1, nI pa) by show mgiv m (tn (nI pa)) 2 b = _; rw [tnn (by omega)]; rfl]; exact po_put h h8 (by omega) h10⟩
theorem pf_2 {num en : Int32} (h : MD u o T N R l m) (h8 : N < 3800) (h10 : rF u o 10 = m 132) (h11 : rF u o 11 = -1) (hv : ¬ g_X10_isFine (nI 2) a b c = 0) : ∃ v, perfK F o (nI 2) a b c u = some ((mdo m 2 a b c num en).2.1, v) ∧ PO u v o T N R l m (mdo m 2 a b c num en) (-1, -1, -1) := by
  obtain ⟨fa, fb, fc⟩ := fine_abc (k := 2) (by decide) hv
  unfold perfK
  rw [if_neg (by decide), if_neg (by decide), if_neg (by decide), if_pos (by decide)]
  obtain ⟨pa, hpa, rfl⟩ := reg_of (x := a) fa
  rw [c_put h h8 (by omega), ob_i]
  exact ⟨_, rfl, by rw [show mdo m 2 (nI pa) b c num en = (mput m pa 1 b, 0, -1, nI pa) by show mgiv m (tn (nI pa)) 1 b = _; rw [tnn (by omega)]; rfl]; exact po_put h h8 (by omega) h10⟩
theorem pf_22 {num en : Int32} (h : MD u o T N R l m) (h8 : N < 3800) (h10 : rF u o 10 = m 132) (h11 : rF u o 11 = -1) (hv : ¬ g_X10_isFine (nI 22) a b c = 0) : ∃ v, perfK F o (nI 22) a b c u = some ((mdo m 22 a b c num en).2.1, v) ∧ PO u v o T N R l m (mdo m 22 a b c num en) (-1, -1, -1) := by
  obtain ⟨fa, fb, fc⟩ := fine_abc (k := 22) (by decide) hv
  unfold perfK
  rw [if_neg (by decide), if_neg (by decide), if_neg (by decide), if_neg (by decide), if_neg (by decide), if_neg (by decide), if_neg (by decide), if_neg (by decide), if_neg (by decide), if_neg (by decide), if_neg (by decide), if_neg (by decide), if_neg (by decide), if_neg (by decide), if_neg (by decide), if_neg (by decide), if_neg (by decide), if_pos (by decide)]
  obtain ⟨pa, hpa, rfl⟩ := reg_of (x := a) fa
  rw [c_put h h8 (by omega), ob_i]
  exact ⟨_, rfl, by rw [show mdo m 22 (nI pa) b c num en = (mput m pa 0 0, 0, -1, nI pa) by show mgiv m (tn (nI pa)) 0 0 = _; rw [tnn (by omega)]; rfl]; exact po_put h h8 (by omega) h10⟩
theorem pf_0 {num en : Int32} (h : MD u o T N R l m) (h8 : N < 3800) (h10 : rF u o 10 = m 132) (h11 : rF u o 11 = -1) (hv : ¬ g_X10_isFine (nI 0) a b c = 0) : ∃ v, perfK F o (nI 0) a b c u = some ((mdo m 0 a b c num en).2.1, v) ∧ PO u v o T N R l m (mdo m 0 a b c num en) (-1, -1, -1) := by
  obtain ⟨fa, fb, fc⟩ := fine_abc (k := 0) (by decide) hv
  unfold perfK
  rw [if_neg (by decide), if_pos (by decide)]
  exact ⟨_, rfl, po_end h h11⟩
theorem pf_3 {num en : Int32} (h : MD u o T N R l m) (h8 : N < 3800) (h10 : rF u o 10 = m 132) (h11 : rF u o 11 = -1) (hv : ¬ g_X10_isFine (nI 3) a b c = 0) : ∃ v, perfK F o (nI 3) a b c u = some ((mdo m 3 a b c num en).2.1, v) ∧ PO u v o T N R l m (mdo m 3 a b c num en) (-1, lat (u.2.1 (o + 14)) (tn b) N, -1) := by
  obtain ⟨fa, fb, fc⟩ := fine_abc (k := 3) (by decide) hv
  unfold perfK
  rw [if_neg (by decide), if_neg (by decide), if_neg (by decide), if_neg (by decide), if_pos (by decide)]
  obtain ⟨pa, hpa, rfl⟩ := reg_of (x := a) fa
  obtain ⟨pb, hpb, rfl⟩ := reg_of (x := b) fb
  rw [MD_latest h (by omega), ob_i]
  unfold g_X8_copy
  rw [MD_sort h (by omega), ob_i, MD_number h (by omega), ob_i, c_put h h8 (by omega), ob_i, ob_i, show mdo m 3 (nI pa) (nI pb) c num en = (mput m pa (m pb) (m (40 + pb)), 0, -1, nI pa) by show mgiv m (tn (nI pa)) (m (tn (nI pb))) (m (40 + tn (nI pb))) = _; rw [tnn (by omega), tnn (by omega)]; rfl, tnn (by omega)]
  exact ⟨_, rfl, po_put h h8 (by omega) h10⟩
theorem pf_10 {num en : Int32} (h : MD u o T N R l m) (h8 : N < 3800) (h10 : rF u o 10 = m 132) (h11 : rF u o 11 = -1) (hv : ¬ g_X10_isFine (nI 10) a b c = 0) : ∃ v, perfK F o (nI 10) a b c u = some ((mdo m 10 a b c num en).2.1, v) ∧ PO u v o T N R l m (mdo m 10 a b c num en) (-1, lat (u.2.1 (o + 14)) (tn b) N, lat (u.2.1 (o + 14)) (tn c) N) := by
  obtain ⟨fa, fb, fc⟩ := fine_abc (k := 10) (by decide) hv
  unfold perfK
  rw [if_neg (by decide), if_neg (by decide), if_neg (by decide), if_neg (by decide), if_neg (by decide), if_pos (by decide)]
  obtain ⟨pa, hpa, rfl⟩ := reg_of (x := a) fa
  obtain ⟨pb, hpb, rfl⟩ := reg_of (x := b) fb
  obtain ⟨pc, hpc, rfl⟩ := reg_of (x := c) fc
  rw [MD_latest h (by omega), ob_i, MD_latest h (by omega), ob_i]
  unfold g_X8_compare g_X8_compare_j39
  rw [MD_sort h (by omega), ob_i, MD_number h (by omega), ob_i, MD_value h (by omega), ob_i, show mdo m 10 (nI pa) (nI pb) (nI pc) num en = (mput m pa 1 (if m pb = m pc ∧ m (40 + pb) = m (40 + pc) then 1 else 0), 0, -1, nI pa) by show mgiv m (tn (nI pa)) 1 (if m (tn (nI pb)) = m (tn (nI pc)) ∧ m (40 + tn (nI pb)) = m (40 + tn (nI pc)) then 1 else 0) = _; rw [tnn (by omega), tnn (by omega), tnn (by omega)]; rfl, tnn (by omega), tnn (by omega)]
  by_cases q : m pb = m pc ∧ m (40 + pb) = m (40 + pc)
  · rw [if_pos q, if_neg (by decide), c_put h h8 (by omega), ob_i, ob_i]
    exact ⟨_, rfl, po_put h h8 (by omega) h10⟩
  · rw [if_neg q, if_pos rfl, c_put h h8 (by omega), ob_i, ob_i]
    exact ⟨_, rfl, po_put h h8 (by omega) h10⟩
theorem pf_11 {num en : Int32} (h : MD u o T N R l m) (h8 : N < 3800) (h10 : rF u o 10 = m 132) (h11 : rF u o 11 = -1) (hv : ¬ g_X10_isFine (nI 11) a b c = 0) : ∃ v, perfK F o (nI 11) a b c u = some ((mdo m 11 a b c num en).2.1, v) ∧ PO u v o T N R l m (mdo m 11 a b c num en) (-1, lat (u.2.1 (o + 14)) (tn b) N, -1) := by
  obtain ⟨fa, fb, fc⟩ := fine_abc (k := 11) (by decide) hv
  unfold perfK
  rw [if_neg (by decide), if_neg (by decide), if_neg (by decide), if_neg (by decide), if_neg (by decide), if_neg (by decide), if_pos (by decide)]
  obtain ⟨pa, hpa, rfl⟩ := reg_of (x := a) fa
  obtain ⟨pb, hpb, rfl⟩ := reg_of (x := b) fb
  rw [MD_latest h (by omega), ob_i]
  unfold g_X8_combine g_X8_combine_j33 g_X8_combine_j68
  rw [MD_sort h (by omega), ob_i, show mdo m 11 (nI pa) (nI pb) c num en = (if m pb = 1 then mgiv m pa 1 (1 - m (40 + pb)) else mtrp m 1) by show (if m (tn (nI pb)) = 1 then mgiv m (tn (nI pa)) 1 (1 - m (40 + tn (nI pb))) else mtrp m 1) = _; rw [tnn (by omega), tnn (by omega)], tnn (by omega)]
  by_cases q : m pb = 1
  · rw [if_pos q, if_pos q, if_neg (by decide), MD_number h (by omega), ob_i, if_pos (by decide), c_put h h8 (by omega), ob_i, ob_i]
    exact ⟨_, rfl, po_put h h8 (by omega) h10⟩
  · rw [if_neg q, if_neg q, ob_i]
    exact ⟨_, rfl, po_trap h h11 (by decide)⟩
theorem pf_12 {num en : Int32} (h : MD u o T N R l m) (h8 : N < 3800) (h10 : rF u o 10 = m 132) (h11 : rF u o 11 = -1) (hv : ¬ g_X10_isFine (nI 12) a b c = 0) : ∃ v, perfK F o (nI 12) a b c u = some ((mdo m 12 a b c num en).2.1, v) ∧ PO u v o T N R l m (mdo m 12 a b c num en) (-1, lat (u.2.1 (o + 14)) (tn b) N, lat (u.2.1 (o + 14)) (tn c) N) := by
  obtain ⟨fa, fb, fc⟩ := fine_abc (k := 12) (by decide) hv
  unfold perfK
  rw [if_neg (by decide), if_neg (by decide), if_neg (by decide), if_neg (by decide), if_neg (by decide), if_neg (by decide), if_neg (by decide), if_pos (by decide)]
  obtain ⟨pa, hpa, rfl⟩ := reg_of (x := a) fa
  obtain ⟨pb, hpb, rfl⟩ := reg_of (x := b) fb
  obtain ⟨pc, hpc, rfl⟩ := reg_of (x := c) fc
  rw [MD_latest h (by omega), ob_i, MD_latest h (by omega), ob_i]
  unfold g_X8_combine g_X8_combine_j33 g_X8_combine_j68
  rw [MD_sort h (by omega), ob_i, MD_sort h (by omega), ob_i, show mdo m 12 (nI pa) (nI pb) (nI pc) num en = (if m pb = 1 ∧ m pc = 1 then mgiv m pa 1 (m (40 + pb) &&& m (40 + pc)) else mtrp m 1) by show (if m (tn (nI pb)) = 1 ∧ m (tn (nI pc)) = 1 then mgiv m (tn (nI pa)) 1 (m (40 + tn (nI pb)) &&& m (40 + tn (nI pc))) else mtrp m 1) = _; rw [tnn (by omega), tnn (by omega), tnn (by omega)], tnn (by omega), tnn (by omega)]
  by_cases q : m pb = 1
  · by_cases q2 : m pc = 1
    · rw [if_pos q, if_pos (by decide), if_pos q2, if_pos ⟨q, q2⟩, MD_number h (by omega), ob_i, if_neg (by decide), MD_number h (by omega), ob_i, c_put h h8 (by omega), ob_i, ob_i]
      exact ⟨_, rfl, po_put h h8 (by omega) h10⟩
    · rw [if_pos q, if_pos (by decide), if_neg q2, if_neg (fun z => q2 z.2), ob_i]
      exact ⟨_, rfl, po_trap h h11 (by decide)⟩
  · rw [if_neg q, if_neg (fun z => q z.1), ob_i]
    exact ⟨_, rfl, po_trap h h11 (by decide)⟩
theorem cell_of {x : Int32} (h0 : ¬ x < 0) (h1 : x < 32) : ∃ k, k < 32 ∧ x = nI k ∧ 0 ≤ x ∧ x ≤ 31 := by
  rw [Int32.lt_iff_toInt_lt, t_0] at h0
  rw [Int32.lt_iff_toInt_lt, t_32] at h1
  obtain ⟨k, hk, e⟩ := t_nI (x := x) (N := 31) (by omega) (by omega)
  exact ⟨k, by omega, e, by rw [e]; exact nI_pos' (by omega), by rw [e]; exact nI_le (a := k) (b := 31) hk (by decide)⟩
theorem cell_no {x : Int32} (h : x < 0 ∨ ¬ x < 32) : ¬ (0 ≤ x ∧ x ≤ 31) := by
  rintro ⟨h1, h2⟩
  rw [Int32.le_iff_toInt_le] at h1 h2
  have e : (31 : Int32).toInt = 31 := rfl
  rcases h with q | q
  · rw [Int32.lt_iff_toInt_lt] at q
    omega
  · rw [Int32.lt_iff_toInt_lt, t_32] at q
    omega
theorem pf_13 {num en : Int32} (h : MD u o T N R l m) (h8 : N < 3800) (h10 : rF u o 10 = m 132) (h11 : rF u o 11 = -1) (hv : ¬ g_X10_isFine (nI 13) a b c = 0) : ∃ v, perfK F o (nI 13) a b c u = some ((mdo m 13 a b c num en).2.1, v) ∧ PO u v o T N R l m (mdo m 13 a b c num en) (-1, lat (u.2.1 (o + 14)) (tn b) N, lat (u.2.1 (o + 14)) (8 + tn (m (40 + tn b))) N) := by
  obtain ⟨fa, fb, fc⟩ := fine_abc (k := 13) (by decide) hv
  unfold perfK
  rw [if_neg (by decide), if_neg (by decide), if_neg (by decide), if_neg (by decide), if_neg (by decide), if_neg (by decide), if_neg (by decide), if_neg (by decide), if_pos (by decide)]
  obtain ⟨pa, hpa, rfl⟩ := reg_of (x := a) fa
  obtain ⟨pb, hpb, rfl⟩ := reg_of (x := b) fb
  rw [MD_latest h (by omega), ob_i]
  unfold g_X8_fromCell
  rw [MD_sort h (by omega), ob_i, show mdo m 13 (nI pa) (nI pb) c num en = mcel m pb (fun p => mgiv m pa (m p) (m (40 + p))) by show mcel m (tn (nI pb)) (fun p => mgiv m (tn (nI pa)) (m p) (m (40 + p))) = _; rw [tnn (by omega), tnn (by omega)], tnn (by omega)]
  unfold mcel
  by_cases q : m pb = 2
  · rw [if_pos q, if_pos q, MD_number h (by omega), ob_i]
    by_cases q1 : m (40 + pb) < 0
    · rw [if_pos q1, if_neg (cell_no (Or.inl q1)), ob_i]
      exact ⟨_, rfl, po_trap h h11 (by decide)⟩
    · rw [if_neg q1]
      by_cases q2 : m (40 + pb) < 32
      · obtain ⟨k, hk, ek, e3, e4⟩ := cell_of q1 q2
        rw [if_pos q2, if_pos ⟨e3, e4⟩, ek, c8, MD_latest h (by omega), ob_i, MD_sort h (by omega), ob_i, MD_number h (by omega), ob_i, c_put h h8 (by omega), ob_i, ob_i, tnn (by omega)]
        exact ⟨_, rfl, po_put h h8 (by omega) h10⟩
      · rw [if_neg q2, if_neg (cell_no (Or.inr q2)), ob_i]
        exact ⟨_, rfl, po_trap h h11 (by decide)⟩
  · rw [if_neg q, if_neg q, ob_i]
    exact ⟨_, rfl, po_trap h h11 (by decide)⟩
theorem pf_14 {num en : Int32} (h : MD u o T N R l m) (h8 : N < 3800) (h10 : rF u o 10 = m 132) (h11 : rF u o 11 = -1) (hv : ¬ g_X10_isFine (nI 14) a b c = 0) : ∃ v, perfK F o (nI 14) a b c u = some ((mdo m 14 a b c num en).2.1, v) ∧ PO u v o T N R l m (mdo m 14 a b c num en) (-1, lat (u.2.1 (o + 14)) (tn a) N, lat (u.2.1 (o + 14)) (tn b) N) := by
  obtain ⟨fa, fb, fc⟩ := fine_abc (k := 14) (by decide) hv
  unfold perfK
  rw [if_neg (by decide), if_neg (by decide), if_neg (by decide), if_neg (by decide), if_neg (by decide), if_neg (by decide), if_neg (by decide), if_neg (by decide), if_neg (by decide), if_pos (by decide)]
  obtain ⟨pa, hpa, rfl⟩ := reg_of (x := a) fa
  obtain ⟨pb, hpb, rfl⟩ := reg_of (x := b) fb
  rw [MD_latest h (by omega), ob_i, MD_latest h (by omega), ob_i]
  unfold g_X8_toCell
  rw [MD_sort h (by omega), ob_i, show mdo m 14 (nI pa) (nI pb) c num en = mcel m pa (fun p => mgiv m p (m pb) (m (40 + pb))) by show mcel m (tn (nI pa)) (fun p => mgiv m p (m (tn (nI pb))) (m (40 + tn (nI pb)))) = _; rw [tnn (by omega), tnn (by omega)], tnn (by omega), tnn (by omega)]
  unfold mcel
  by_cases q : m pa = 2
  · rw [if_pos q, if_pos q, MD_number h (by omega), ob_i]
    by_cases q1 : m (40 + pa) < 0
    · rw [if_pos q1, if_neg (cell_no (Or.inl q1)), ob_i]
      exact ⟨_, rfl, po_trap h h11 (by decide)⟩
    · rw [if_neg q1]
      by_cases q2 : m (40 + pa) < 32
      · obtain ⟨k, hk, ek, e3, e4⟩ := cell_of q1 q2
        rw [if_pos q2, if_pos ⟨e3, e4⟩, ek, c8, MD_sort h (by omega), ob_i, MD_number h (by omega), ob_i, c_put h h8 (by omega), ob_i, ob_i, tnn (by omega)]
        exact ⟨_, rfl, po_put h h8 (by omega) h10⟩
      · rw [if_neg q2, if_neg (cell_no (Or.inr q2)), ob_i]
        exact ⟨_, rfl, po_trap h h11 (by decide)⟩
  · rw [if_neg q, if_neg q, ob_i]
    exact ⟨_, rfl, po_trap h h11 (by decide)⟩
theorem pf_4 {num en : Int32} (h : MD u o T N R l m) (h8 : N < 3800) (h10 : rF u o 10 = m 132) (h11 : rF u o 11 = -1) (hv : ¬ g_X10_isFine (nI 4) a b c = 0) : ∃ v, perfK F o (nI 4) a b c u = some ((mdo m 4 a b c num en).2.1, v) ∧ PO u v o T N R l m (mdo m 4 a b c num en) (-1, lat (u.2.1 (o + 14)) (tn b) N, lat (u.2.1 (o + 14)) (tn c) N) := by
  obtain ⟨fa, fb, fc⟩ := fine_abc (k := 4) (by decide) hv
  unfold perfK
  rw [if_neg (by decide), if_neg (by decide), if_neg (by decide), if_neg (by decide), if_neg (by decide), if_neg (by decide), if_neg (by decide), if_neg (by decide), if_neg (by decide), if_neg (by decide), if_neg (by decide), if_neg (by decide), if_neg (by decide), if_neg (by decide), if_neg (by decide), if_neg (by decide), if_neg (by decide), if_neg (by decide)]
  obtain ⟨pa, hpa, rfl⟩ := reg_of (x := a) fa
  obtain ⟨pb, hpb, rfl⟩ := reg_of (x := b) fb
  obtain ⟨pc, hpc, rfl⟩ := reg_of (x := c) fc
  unfold g_X8_perform_j405 g_X8_reckon g_X8_reckon_j60 g_X8_reckon_j67 g_X8_reckon_j89
  rw [MD_latest h (by omega), ob_i, MD_latest h (by omega), ob_i, MD_sort h (by omega), ob_i, show mdo m 4 (nI pa) (nI pb) (nI pc) num en = mreck m 4 pa pb pc by show mreck m 4 (tn (nI pa)) (tn (nI pb)) (tn (nI pc)) = _; rw [tnn (by omega), tnn (by omega), tnn (by omega)], tnn (by omega), tnn (by omega)]
  unfold mreck
  by_cases q : m pb = 2
  · rw [if_pos q, MD_sort h (by omega), ob_i]
    by_cases q2 : m pc = 2
    · rw [if_pos q2, if_neg (c := ¬ m pb = 2 ∨ ¬ m pc = 2) (fun z => by rcases z with z | z; exact z q; exact z q2), MD_number h (by omega), ob_i, MD_number h (by omega), ob_i]
      rw [if_neg (by decide), if_neg (by decide), if_neg (by decide), if_neg (c := ((4 : Nat) = 7 ∨ (4 : Nat) = 8) ∧ m (40 + pc) = 0) (fun z => by rcases z.1 with y | y <;> cases y)]
      unfold g_X8_reckoned
      rw [if_pos (by decide), ob_i, c_put h h8 (by omega), ob_i, ob_i]
      exact ⟨_, rfl, po_put h h8 (by omega) h10⟩
    · rw [if_neg q2, if_pos (c := ¬ m pb = 2 ∨ ¬ m pc = 2) (Or.inr q2), ob_i]
      exact ⟨_, rfl, po_trap h h11 (by decide)⟩
  · rw [if_neg q, if_pos (c := ¬ m pb = 2 ∨ ¬ m pc = 2) (Or.inl q), ob_i]
    exact ⟨_, rfl, po_trap h h11 (by decide)⟩
theorem pf_5 {num en : Int32} (h : MD u o T N R l m) (h8 : N < 3800) (h10 : rF u o 10 = m 132) (h11 : rF u o 11 = -1) (hv : ¬ g_X10_isFine (nI 5) a b c = 0) : ∃ v, perfK F o (nI 5) a b c u = some ((mdo m 5 a b c num en).2.1, v) ∧ PO u v o T N R l m (mdo m 5 a b c num en) (-1, lat (u.2.1 (o + 14)) (tn b) N, lat (u.2.1 (o + 14)) (tn c) N) := by
  obtain ⟨fa, fb, fc⟩ := fine_abc (k := 5) (by decide) hv
  unfold perfK
  rw [if_neg (by decide), if_neg (by decide), if_neg (by decide), if_neg (by decide), if_neg (by decide), if_neg (by decide), if_neg (by decide), if_neg (by decide), if_neg (by decide), if_neg (by decide), if_neg (by decide), if_neg (by decide), if_neg (by decide), if_neg (by decide), if_neg (by decide), if_neg (by decide), if_neg (by decide), if_neg (by decide)]
  obtain ⟨pa, hpa, rfl⟩ := reg_of (x := a) fa
  obtain ⟨pb, hpb, rfl⟩ := reg_of (x := b) fb
  obtain ⟨pc, hpc, rfl⟩ := reg_of (x := c) fc
  unfold g_X8_perform_j405 g_X8_reckon g_X8_reckon_j60 g_X8_reckon_j67 g_X8_reckon_j89
  rw [MD_latest h (by omega), ob_i, MD_latest h (by omega), ob_i, MD_sort h (by omega), ob_i, show mdo m 5 (nI pa) (nI pb) (nI pc) num en = mreck m 5 pa pb pc by show mreck m 5 (tn (nI pa)) (tn (nI pb)) (tn (nI pc)) = _; rw [tnn (by omega), tnn (by omega), tnn (by omega)], tnn (by omega), tnn (by omega)]
  unfold mreck
  by_cases q : m pb = 2
  · rw [if_pos q, MD_sort h (by omega), ob_i]
    by_cases q2 : m pc = 2
    · rw [if_pos q2, if_neg (c := ¬ m pb = 2 ∨ ¬ m pc = 2) (fun z => by rcases z with z | z; exact z q; exact z q2), MD_number h (by omega), ob_i, MD_number h (by omega), ob_i]
      rw [if_neg (by decide), if_neg (by decide), if_neg (by decide), if_neg (c := ((5 : Nat) = 7 ∨ (5 : Nat) = 8) ∧ m (40 + pc) = 0) (fun z => by rcases z.1 with y | y <;> cases y)]
      unfold g_X8_reckoned
      rw [if_neg (by decide), if_pos (by decide), ob_i, c_put h h8 (by omega), ob_i, ob_i]
      exact ⟨_, rfl, po_put h h8 (by omega) h10⟩
    · rw [if_neg q2, if_pos (c := ¬ m pb = 2 ∨ ¬ m pc = 2) (Or.inr q2), ob_i]
      exact ⟨_, rfl, po_trap h h11 (by decide)⟩
  · rw [if_neg q, if_pos (c := ¬ m pb = 2 ∨ ¬ m pc = 2) (Or.inl q), ob_i]
    exact ⟨_, rfl, po_trap h h11 (by decide)⟩
theorem pf_6 {num en : Int32} (h : MD u o T N R l m) (h8 : N < 3800) (h10 : rF u o 10 = m 132) (h11 : rF u o 11 = -1) (hv : ¬ g_X10_isFine (nI 6) a b c = 0) : ∃ v, perfK F o (nI 6) a b c u = some ((mdo m 6 a b c num en).2.1, v) ∧ PO u v o T N R l m (mdo m 6 a b c num en) (-1, lat (u.2.1 (o + 14)) (tn b) N, lat (u.2.1 (o + 14)) (tn c) N) := by
  obtain ⟨fa, fb, fc⟩ := fine_abc (k := 6) (by decide) hv
  unfold perfK
  rw [if_neg (by decide), if_neg (by decide), if_neg (by decide), if_neg (by decide), if_neg (by decide), if_neg (by decide), if_neg (by decide), if_neg (by decide), if_neg (by decide), if_neg (by decide), if_neg (by decide), if_neg (by decide), if_neg (by decide), if_neg (by decide), if_neg (by decide), if_neg (by decide), if_neg (by decide), if_neg (by decide)]
  obtain ⟨pa, hpa, rfl⟩ := reg_of (x := a) fa
  obtain ⟨pb, hpb, rfl⟩ := reg_of (x := b) fb
  obtain ⟨pc, hpc, rfl⟩ := reg_of (x := c) fc
  unfold g_X8_perform_j405 g_X8_reckon g_X8_reckon_j60 g_X8_reckon_j67 g_X8_reckon_j89
  rw [MD_latest h (by omega), ob_i, MD_latest h (by omega), ob_i, MD_sort h (by omega), ob_i, show mdo m 6 (nI pa) (nI pb) (nI pc) num en = mreck m 6 pa pb pc by show mreck m 6 (tn (nI pa)) (tn (nI pb)) (tn (nI pc)) = _; rw [tnn (by omega), tnn (by omega), tnn (by omega)], tnn (by omega), tnn (by omega)]
  unfold mreck
  by_cases q : m pb = 2
  · rw [if_pos q, MD_sort h (by omega), ob_i]
    by_cases q2 : m pc = 2
    · rw [if_pos q2, if_neg (c := ¬ m pb = 2 ∨ ¬ m pc = 2) (fun z => by rcases z with z | z; exact z q; exact z q2), MD_number h (by omega), ob_i, MD_number h (by omega), ob_i]
      rw [if_neg (by decide), if_neg (by decide), if_neg (by decide), if_neg (c := ((6 : Nat) = 7 ∨ (6 : Nat) = 8) ∧ m (40 + pc) = 0) (fun z => by rcases z.1 with y | y <;> cases y)]
      unfold g_X8_reckoned
      rw [if_neg (by decide), if_neg (by decide), if_pos (by decide), ob_i, c_put h h8 (by omega), ob_i, ob_i]
      exact ⟨_, rfl, po_put h h8 (by omega) h10⟩
    · rw [if_neg q2, if_pos (c := ¬ m pb = 2 ∨ ¬ m pc = 2) (Or.inr q2), ob_i]
      exact ⟨_, rfl, po_trap h h11 (by decide)⟩
  · rw [if_neg q, if_pos (c := ¬ m pb = 2 ∨ ¬ m pc = 2) (Or.inl q), ob_i]
    exact ⟨_, rfl, po_trap h h11 (by decide)⟩
theorem pf_7 {num en : Int32} (h : MD u o T N R l m) (h8 : N < 3800) (h10 : rF u o 10 = m 132) (h11 : rF u o 11 = -1) (hv : ¬ g_X10_isFine (nI 7) a b c = 0) : ∃ v, perfK F o (nI 7) a b c u = some ((mdo m 7 a b c num en).2.1, v) ∧ PO u v o T N R l m (mdo m 7 a b c num en) (-1, lat (u.2.1 (o + 14)) (tn b) N, lat (u.2.1 (o + 14)) (tn c) N) := by
  obtain ⟨fa, fb, fc⟩ := fine_abc (k := 7) (by decide) hv
  unfold perfK
  rw [if_neg (by decide), if_neg (by decide), if_neg (by decide), if_neg (by decide), if_neg (by decide), if_neg (by decide), if_neg (by decide), if_neg (by decide), if_neg (by decide), if_neg (by decide), if_neg (by decide), if_neg (by decide), if_neg (by decide), if_neg (by decide), if_neg (by decide), if_neg (by decide), if_neg (by decide), if_neg (by decide)]
  obtain ⟨pa, hpa, rfl⟩ := reg_of (x := a) fa
  obtain ⟨pb, hpb, rfl⟩ := reg_of (x := b) fb
  obtain ⟨pc, hpc, rfl⟩ := reg_of (x := c) fc
  unfold g_X8_perform_j405 g_X8_reckon g_X8_reckon_j60 g_X8_reckon_j67 g_X8_reckon_j89
  rw [MD_latest h (by omega), ob_i, MD_latest h (by omega), ob_i, MD_sort h (by omega), ob_i, show mdo m 7 (nI pa) (nI pb) (nI pc) num en = mreck m 7 pa pb pc by show mreck m 7 (tn (nI pa)) (tn (nI pb)) (tn (nI pc)) = _; rw [tnn (by omega), tnn (by omega), tnn (by omega)], tnn (by omega), tnn (by omega)]
  unfold mreck
  by_cases q : m pb = 2
  · rw [if_pos q, MD_sort h (by omega), ob_i]
    by_cases q2 : m pc = 2
    · rw [if_pos q2, if_neg (c := ¬ m pb = 2 ∨ ¬ m pc = 2) (fun z => by rcases z with z | z; exact z q; exact z q2), MD_number h (by omega), ob_i, MD_number h (by omega), ob_i]
      rw [if_pos (by decide)]
      by_cases q3 : m (40 + pc) = 0
      · rw [if_pos q3, if_pos (c := ((7 : Nat) = 7 ∨ (7 : Nat) = 8) ∧ m (40 + pc) = 0) ⟨by decide, q3⟩, ob_i]
        exact ⟨_, rfl, po_trap h h11 (by decide)⟩
      · rw [if_neg q3, if_neg (c := ((7 : Nat) = 7 ∨ (7 : Nat) = 8) ∧ m (40 + pc) = 0) (fun z => q3 z.2), if_neg (by decide)]
        unfold g_X8_reckoned
        rw [if_neg (by decide), if_neg (by decide), if_neg (by decide), if_pos (by decide), if_neg q3, ck_t q3, ob_i, c_put h h8 (by omega), ob_i, ob_i]
        exact ⟨_, rfl, po_put h h8 (by omega) h10⟩
    · rw [if_neg q2, if_pos (c := ¬ m pb = 2 ∨ ¬ m pc = 2) (Or.inr q2), ob_i]
      exact ⟨_, rfl, po_trap h h11 (by decide)⟩
  · rw [if_neg q, if_pos (c := ¬ m pb = 2 ∨ ¬ m pc = 2) (Or.inl q), ob_i]
    exact ⟨_, rfl, po_trap h h11 (by decide)⟩
theorem pf_8 {num en : Int32} (h : MD u o T N R l m) (h8 : N < 3800) (h10 : rF u o 10 = m 132) (h11 : rF u o 11 = -1) (hv : ¬ g_X10_isFine (nI 8) a b c = 0) : ∃ v, perfK F o (nI 8) a b c u = some ((mdo m 8 a b c num en).2.1, v) ∧ PO u v o T N R l m (mdo m 8 a b c num en) (-1, lat (u.2.1 (o + 14)) (tn b) N, lat (u.2.1 (o + 14)) (tn c) N) := by
  obtain ⟨fa, fb, fc⟩ := fine_abc (k := 8) (by decide) hv
  unfold perfK
  rw [if_neg (by decide), if_neg (by decide), if_neg (by decide), if_neg (by decide), if_neg (by decide), if_neg (by decide), if_neg (by decide), if_neg (by decide), if_neg (by decide), if_neg (by decide), if_neg (by decide), if_neg (by decide), if_neg (by decide), if_neg (by decide), if_neg (by decide), if_neg (by decide), if_neg (by decide), if_neg (by decide)]
  obtain ⟨pa, hpa, rfl⟩ := reg_of (x := a) fa
  obtain ⟨pb, hpb, rfl⟩ := reg_of (x := b) fb
  obtain ⟨pc, hpc, rfl⟩ := reg_of (x := c) fc
  unfold g_X8_perform_j405 g_X8_reckon g_X8_reckon_j60 g_X8_reckon_j67 g_X8_reckon_j89
  rw [MD_latest h (by omega), ob_i, MD_latest h (by omega), ob_i, MD_sort h (by omega), ob_i, show mdo m 8 (nI pa) (nI pb) (nI pc) num en = mreck m 8 pa pb pc by show mreck m 8 (tn (nI pa)) (tn (nI pb)) (tn (nI pc)) = _; rw [tnn (by omega), tnn (by omega), tnn (by omega)], tnn (by omega), tnn (by omega)]
  unfold mreck
  by_cases q : m pb = 2
  · rw [if_pos q, MD_sort h (by omega), ob_i]
    by_cases q2 : m pc = 2
    · rw [if_pos q2, if_neg (c := ¬ m pb = 2 ∨ ¬ m pc = 2) (fun z => by rcases z with z | z; exact z q; exact z q2), MD_number h (by omega), ob_i, MD_number h (by omega), ob_i]
      rw [if_neg (by decide), if_pos (by decide)]
      by_cases q3 : m (40 + pc) = 0
      · rw [if_pos q3, if_pos (c := ((8 : Nat) = 7 ∨ (8 : Nat) = 8) ∧ m (40 + pc) = 0) ⟨by decide, q3⟩, ob_i]
        exact ⟨_, rfl, po_trap h h11 (by decide)⟩
      · rw [if_neg q3, if_neg (c := ((8 : Nat) = 7 ∨ (8 : Nat) = 8) ∧ m (40 + pc) = 0) (fun z => q3 z.2), if_neg (by decide)]
        unfold g_X8_reckoned
        rw [if_neg (by decide), if_neg (by decide), if_neg (by decide), if_neg (by decide), if_neg q3, ck_t q3, ob_i, c_put h h8 (by omega), ob_i, ob_i]
        exact ⟨_, rfl, po_put h h8 (by omega) h10⟩
    · rw [if_neg q2, if_pos (c := ¬ m pb = 2 ∨ ¬ m pc = 2) (Or.inr q2), ob_i]
      exact ⟨_, rfl, po_trap h h11 (by decide)⟩
  · rw [if_neg q, if_pos (c := ¬ m pb = 2 ∨ ¬ m pc = 2) (Or.inl q), ob_i]
    exact ⟨_, rfl, po_trap h h11 (by decide)⟩
theorem pf_9 {num en : Int32} (h : MD u o T N R l m) (h8 : N < 3800) (h10 : rF u o 10 = m 132) (h11 : rF u o 11 = -1) (hv : ¬ g_X10_isFine (nI 9) a b c = 0) : ∃ v, perfK F o (nI 9) a b c u = some ((mdo m 9 a b c num en).2.1, v) ∧ PO u v o T N R l m (mdo m 9 a b c num en) (-1, lat (u.2.1 (o + 14)) (tn b) N, lat (u.2.1 (o + 14)) (tn c) N) := by
  obtain ⟨fa, fb, fc⟩ := fine_abc (k := 9) (by decide) hv
  unfold perfK
  rw [if_neg (by decide), if_neg (by decide), if_neg (by decide), if_neg (by decide), if_neg (by decide), if_neg (by decide), if_neg (by decide), if_neg (by decide), if_neg (by decide), if_neg (by decide), if_neg (by decide), if_neg (by decide), if_neg (by decide), if_neg (by decide), if_neg (by decide), if_neg (by decide), if_neg (by decide), if_neg (by decide)]
  obtain ⟨pa, hpa, rfl⟩ := reg_of (x := a) fa
  obtain ⟨pb, hpb, rfl⟩ := reg_of (x := b) fb
  obtain ⟨pc, hpc, rfl⟩ := reg_of (x := c) fc
  unfold g_X8_perform_j405 g_X8_reckon g_X8_reckon_j60 g_X8_reckon_j67 g_X8_reckon_j89
  rw [MD_latest h (by omega), ob_i, MD_latest h (by omega), ob_i, MD_sort h (by omega), ob_i, show mdo m 9 (nI pa) (nI pb) (nI pc) num en = mreck m 9 pa pb pc by show mreck m 9 (tn (nI pa)) (tn (nI pb)) (tn (nI pc)) = _; rw [tnn (by omega), tnn (by omega), tnn (by omega)], tnn (by omega), tnn (by omega)]
  unfold mreck
  by_cases q : m pb = 2
  · rw [if_pos q, MD_sort h (by omega), ob_i]
    by_cases q2 : m pc = 2
    · rw [if_pos q2, if_neg (c := ¬ m pb = 2 ∨ ¬ m pc = 2) (fun z => by rcases z with z | z; exact z q; exact z q2), MD_number h (by omega), ob_i, MD_number h (by omega), ob_i]
      rw [if_neg (by decide), if_neg (by decide), if_pos (by decide), if_neg (c := ((9 : Nat) = 7 ∨ (9 : Nat) = 8) ∧ m (40 + pc) = 0) (fun z => by rcases z.1 with y | y <;> cases y), if_pos rfl]
      by_cases q3 : m (40 + pb) < m (40 + pc)
      · have q4 : ¬ m (40 + pc) ≤ m (40 + pb) := by
          rw [Int32.lt_iff_toInt_lt] at q3
          rw [Int32.le_iff_toInt_le]
          omega
        rw [if_neg q4, if_pos q3, c_put h h8 (by omega), ob_i, ob_i]
        exact ⟨_, rfl, po_put h h8 (by omega) h10⟩
      · have q4 : m (40 + pc) ≤ m (40 + pb) := by
          rw [Int32.lt_iff_toInt_lt] at q3
          rw [Int32.le_iff_toInt_le]
          omega
        rw [if_pos q4, if_neg q3, c_put h h8 (by omega), ob_i, ob_i]
        exact ⟨_, rfl, po_put h h8 (by omega) h10⟩
    · rw [if_neg q2, if_pos (c := ¬ m pb = 2 ∨ ¬ m pc = 2) (Or.inr q2), ob_i]
      exact ⟨_, rfl, po_trap h h11 (by decide)⟩
  · rw [if_neg q, if_pos (c := ¬ m pb = 2 ∨ ¬ m pc = 2) (Or.inl q), ob_i]
    exact ⟨_, rfl, po_trap h h11 (by decide)⟩
theorem pf_15 {num en : Int32} (h : MD u o T N R l m) (h8 : N < 3800) (h10 : rF u o 10 = m 132) (h11 : rF u o 11 = -1) (hv : ¬ g_X10_isFine (nI 15) a b c = 0) : ∃ v, perfK F o (nI 15) a b c u = some ((mdo m 15 a b c num en).2.1, v) ∧ PO u v o T N R l m (mdo m 15 a b c num en) (-1, -1, -1) := by
  obtain ⟨fa, fb, fc⟩ := fine_abc (k := 15) (by decide) hv
  unfold perfK
  rw [if_neg (by decide), if_neg (by decide), if_neg (by decide), if_neg (by decide), if_neg (by decide), if_neg (by decide), if_neg (by decide), if_neg (by decide), if_neg (by decide), if_neg (by decide), if_pos (by decide)]
  rw [c_goOnAt h.1 h.2.1, ob_i]
  exact ⟨_, rfl, po_goOn h h10 h11⟩
theorem pf_16 {num en : Int32} (h : MD u o T N R l m) (h8 : N < 3800) (h10 : rF u o 10 = m 132) (h11 : rF u o 11 = -1) (hv : ¬ g_X10_isFine (nI 16) a b c = 0) : ∃ v, perfK F o (nI 16) a b c u = some ((mdo m 16 a b c num en).2.1, v) ∧ PO u v o T N R l m (mdo m 16 a b c num en) (-1, -1, -1) := by
  obtain ⟨fa, fb, fc⟩ := fine_abc (k := 16) (by decide) hv
  unfold perfK
  rw [if_neg (by decide), if_neg (by decide), if_neg (by decide), if_neg (by decide), if_neg (by decide), if_neg (by decide), if_neg (by decide), if_neg (by decide), if_neg (by decide), if_neg (by decide), if_neg (by decide), if_pos (by decide)]
  obtain ⟨pa, hpa, rfl⟩ := reg_of (x := a) fa
  rw [MD_latest h (by omega), ob_i]
  unfold g_X8_goOnIf
  rw [MD_sort h (by omega), ob_i, show mdo m 16 (nI pa) b c num en = (if m pa = 1 then ((if m (40 + pa) = 1 then upd m 120 b else m), 0, -1, -1) else mtrp m 1) by show (if m (tn (nI pa)) = 1 then ((if m (40 + tn (nI pa)) = 1 then upd m 120 b else m), 0, -1, -1) else mtrp m 1) = _; rw [tnn (by omega)]]
  by_cases q : m pa = 1
  · rw [if_pos q, if_pos q, MD_number h (by omega), ob_i]
    by_cases q2 : m (40 + pa) = 1
    · rw [if_pos q2, if_pos q2, c_goOnAt h.1 h.2.1, ob_i, ob_i]
      exact ⟨_, rfl, po_goOn h h10 h11⟩
    · rw [if_neg q2, if_neg q2, ob_i]
      exact ⟨_, rfl, po_no h h10 h11⟩
  · rw [if_neg q, if_neg q, ob_i]
    exact ⟨_, rfl, po_trap h h11 (by decide)⟩
theorem pf_21 {num en : Int32} (h : MD u o T N R l m) (h8 : N < 3800) (h10 : rF u o 10 = m 132) (h11 : rF u o 11 = -1) (hv : ¬ g_X10_isFine (nI 21) a b c = 0) (h131 : m 131 = R T 131) : ∃ v, perfK F o (nI 21) a b c u = some ((mdo m 21 a b c num en).2.1, v) ∧ PO u v o T N R l m (mdo m 21 a b c num en) (-1, -1, -1) := by
  obtain ⟨fa, fb, fc⟩ := fine_abc (k := 21) (by decide) hv
  unfold perfK
  rw [if_neg (by decide), if_neg (by decide), if_neg (by decide), if_neg (by decide), if_neg (by decide), if_neg (by decide), if_neg (by decide), if_neg (by decide), if_neg (by decide), if_neg (by decide), if_neg (by decide), if_neg (by decide), if_neg (by decide), if_neg (by decide), if_neg (by decide), if_neg (by decide), if_pos (by decide)]
  obtain ⟨pa, hpa, rfl⟩ := reg_of (x := a) fa
  rw [MD_latest h (by omega), ob_i]
  unfold g_X8_putOut
  rw [MD_sort h (by omega), ob_i, MD_number h (by omega), ob_i, c_addOut h h131, ob_i, ob_i, show mdo m 21 (nI pa) b c num en = (upd (upd m 130 (m 130 + 1)) 131 (31 * m 131 + 3 * m (40 + pa) + m pa), 0, -1, -1) by show (upd (upd m 130 (m 130 + 1)) 131 (31 * m 131 + 3 * m (40 + tn (nI pa)) + m (tn (nI pa))), (0 : Int32), (-1 : Int32), (-1 : Int32)) = _; rw [tnn (by omega)]]
  exact ⟨_, rfl, po_out h h10 h11⟩
theorem pf_18 {num en : Int32} (h : MD u o T N R l m) (h8 : N < 3800) (h10 : rF u o 10 = m 132) (h11 : rF u o 11 = -1) (hv : ¬ g_X10_isFine (nI 18) a b c = 0) {d : Nat} (hd : R T 121 = nI d) (hd2 : m 121 = nI d) (d8 : d ≤ 8) (hst : ∀ i, i < d → m (122 + i) = R T (122 + i)) (hF : 10000 < F) : ∃ v, perfK F o (nI 18) a b c u = some ((mdo m 18 a b c num en).2.1, v) ∧ PO u v o T N R l m (mdo m 18 a b c num en) (-1, -1, -1) := by
  obtain ⟨fa, fb, fc⟩ := fine_abc (k := 18) (by decide) hv
  unfold perfK
  rw [if_neg (by decide), if_neg (by decide), if_neg (by decide), if_neg (by decide), if_neg (by decide), if_neg (by decide), if_neg (by decide), if_neg (by decide), if_neg (by decide), if_neg (by decide), if_neg (by decide), if_neg (by decide), if_neg (by decide), if_pos (by decide)]
  unfold g_X8_goUp
  have hS : ∀ s, s ≤ T → SI u o R s := fun s hs => SI_c (h.2.2.1 s (by omega)) (fun _ _ => rfl) rfl rfl rfl (fun s' hs' => (Rx_le (by omega)).symm)
  rw [h.1, c_stackSize h.1 (by have := h.2.1; omega) (Nat.le_refl _) hS hF, ob_i, hd, show mdo m 18 a b c num en = (if m 121 = 0 then (upd m 132 2, 0, -1, -1) else (upd (upd m 121 (m 121 - 1)) 120 (m (122 + tn (m 121 - 1))), 0, -1, -1)) from rfl, hd2]
  cases d with
  | zero =>
    rw [if_pos nI_0, if_pos nI_0, lt1_i, ob_i]
    exact ⟨_, rfl, po_end h h11⟩
  | succ d =>
    obtain ⟨d', k1, k2, -, k4⟩ := (hS T (Nat.le_refl _)).2.2.2
    have e1 : d' = d + 1 := nI_inj (by omega) (by omega) (k2.symm.trans hd)
    subst e1
    obtain ⟨s', b1, b2, b3, b4, b5⟩ := k4 d rfl
    have hT3 := h.2.1
    rw [if_neg (nI_ne0 (by omega) (by omega)), if_neg (nI_ne0 (by omega) (by omega)), nI_pred, c_stackedAt h.1 (by omega) (Nat.le_refl _) hS hd (by omega) hF, ob_i, if_neg (fun z => by rcases z with z | z; exact nI_pos (by omega) z; exact nI_ge (show d < d + 1 by omega) (by omega) z), tnn (by omega), c_goOnAt h.1 h.2.1, ob_i]
    have e33 : (rg_R u (o + 30) (T + 1) (R T (122 + d))).2.1 (o + 33) T = nI s' := by rw [R_n (by omega)]; exact b2
    rw [c_stackDown (u := rg_R u (o + 30) (T + 1) (R T (122 + d))) (s := s') h.1 h.2.1 b1 e33, ob_i, ob_i, R_n (show o + 33 ≠ o + 30 by omega), hst d (by omega)]
    exact ⟨_, rfl, po_down h h10 h11 b1 (by omega) b4 (fun i hi => by rw [hst i (by omega)]; exact b5 i hi)⟩
end XO
