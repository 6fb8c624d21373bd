/-! the class's table of puts: one more, and back -/
theorem R_n {u : rg_U} {j j' i : Nat} {v : Int32} (h : j' ≠ j) : (rg_R u j i v).2.1 j' = u.2.1 j' := pm_up_n h
theorem R_s {u : rg_U} {j i : Nat} {v : Int32} : (rg_R u j i v).2.1 j = upd (u.2.1 j) i v := pm_up_s
theorem F_2 {u : rg_U} {k : Nat} {v : Int32} : (rg_F u k v).2 = u.2 := rfl
theorem sF_A {u : rg_U} {j s : Nat} {v : Int32} : (sF u j s v).2.1 = u.2.1 := rfl
theorem sF_y {u : rg_U} {j s : Nat} {v : Int32} : rF (sF u j s v) j s = v := by
  show upd u.1 _ v _ = v
  rw [pk_us]
theorem sF_n {u : rg_U} {j s k : Nat} {v : Int32} (h : k ≠ 100 * j + s) : (sF u j s v).1 k = u.1 k := by
  show upd u.1 _ v k = _
  rw [pk_un h]
def addS (u : rg_U) (q N p : Nat) (x s n ch old : Int32) : rg_U := sF (rg_R (rg_R (rg_R (rg_R (rg_R (rg_R (rg_R u (q + 1) N x) (q + 2) N (nI p)) (q + 3) N s) (q + 4) N n) (q + 5) N ch) (q + 6) N old) (q + 11) p (nI N)) q 11 (nI (N + 1))
def restS (u : rg_U) (q N : Nat) (a b c d : Int32) : rg_U := rg_R (rg_R (rg_R (rg_R u (q + 7) N a) (q + 8) N b) (q + 9) N c) (q + 10) N d
/-- whether a put has a value -/
abbrev sameV (u : rg_U) (q : Nat) (x s n : Int32) : Prop := vS (u.2.1 (q + 3)) 0 x = s ∧ vS (u.2.1 (q + 4)) 0 x = n
section XA
variable {F q T N p : Nat} {x s n ch old a b c d : Int32} {u : rg_U}
theorem addS_1 : (addS u q N p x s n ch old).2.1 (q + 1) = upd (u.2.1 (q + 1)) N x := by
  unfold addS
  rw [sF_A, R_n (by omega), R_n (by omega), R_n (by omega), R_n (by omega), R_n (by omega), R_n (by omega), R_s]
theorem addS_2 : (addS u q N p x s n ch old).2.1 (q + 2) = upd (u.2.1 (q + 2)) N (nI p) := by
  unfold addS
  rw [sF_A, R_n (by omega), R_n (by omega), R_n (by omega), R_n (by omega), R_n (by omega), R_s, R_n (by omega)]
theorem addS_3 : (addS u q N p x s n ch old).2.1 (q + 3) = upd (u.2.1 (q + 3)) N s := by
  unfold addS
  rw [sF_A, R_n (by omega), R_n (by omega), R_n (by omega), R_n (by omega), R_s, R_n (by omega), R_n (by omega)]
theorem addS_4 : (addS u q N p x s n ch old).2.1 (q + 4) = upd (u.2.1 (q + 4)) N n := by
  unfold addS
  rw [sF_A, R_n (by omega), R_n (by omega), R_n (by omega), R_s, R_n (by omega), R_n (by omega), R_n (by omega)]
theorem addS_5 : (addS u q N p x s n ch old).2.1 (q + 5) = upd (u.2.1 (q + 5)) N ch := by
  unfold addS
  rw [sF_A, R_n (by omega), R_n (by omega), R_s, R_n (by omega), R_n (by omega), R_n (by omega), R_n (by omega)]
theorem addS_6 : (addS u q N p x s n ch old).2.1 (q + 6) = upd (u.2.1 (q + 6)) N old := by
  unfold addS
  rw [sF_A, R_n (by omega), R_s, R_n (by omega), R_n (by omega), R_n (by omega), R_n (by omega), R_n (by omega)]
theorem addS_11 : (addS u q N p x s n ch old).2.1 (q + 11) = upd (u.2.1 (q + 11)) p (nI N) := by
  unfold addS
  rw [sF_A, R_s, R_n (by omega), R_n (by omega), R_n (by omega), R_n (by omega), R_n (by omega), R_n (by omega)]
theorem addS_n {j : Nat} (h : j < q + 1 ∨ (q + 6 < j ∧ j ≠ q + 11)) : (addS u q N p x s n ch old).2.1 j = u.2.1 j := by
  unfold addS
  rw [sF_A, R_n (by omega), R_n (by omega), R_n (by omega), R_n (by omega), R_n (by omega), R_n (by omega), R_n (by omega)]
theorem addS_f {k : Nat} (h : k ≠ 100 * q + 11) : (addS u q N p x s n ch old).1 k = u.1 k := sF_n h
theorem addS_g : (addS u q N p x s n ch old).2.2 = u.2.2 := rfl
theorem restS_n {j : Nat} (h : j < q + 7 ∨ q + 10 < j) : (restS u q N a b c d).2.1 j = u.2.1 j := by
  unfold restS
  rw [R_n (by omega), R_n (by omega), R_n (by omega), R_n (by omega)]
theorem restS_f : (restS u q N a b c d).1 = u.1 := rfl
theorem restS_g : (restS u q N a b c d).2.2 = u.2.2 := rfl
theorem c_add6 (hN : rF u q 11 = nI N) (h8 : N < 3800) (hp : p < 40) (hl : isPt N (u.2.1 (q + 11) p)) : g_X6_add F q x (nI p) s n u = some ((if sameV u q (u.2.1 (q + 11) p) s n then 0 else 1), addS u q N p x s n (vS (u.2.1 (q + 5)) 0 (u.2.1 (q + 11) p) + (if sameV u q (u.2.1 (q + 11) p) s n then 0 else 1)) (u.2.1 (q + 11) p)) := by
  have hi : inb (nI N) 3800 := inb_nI h8 (by decide)
  have hip : inb (nI p) 40 := inb_nI hp (by decide)
  have e : ∀ (v : rg_U) (j : Nat) (x : Int32), rF v q 11 = nI N → rF (rg_R v j N x) q 11 = nI N := fun v j x h => h
  have j118 : ∀ (w : rg_U) (l5 l6 s0 s1 : Int32), rF w q 11 = nI N → (l6 = 0 ∨ l6 = 1) → g_X6_add_j118 F q (nI p) l5 l6 s0 s1 (nI N) w = some (l6, sF (rg_R (rg_R (rg_R w (q + 5) N (s1 + s0)) (q + 6) N l5) (q + 11) p (nI N)) q 11 (nI (N + 1))) := by
    intro w l5 l6 s0 s1 hw h6
    unfold g_X6_add_j118
    rw [ck_t hi, lt1_i, sA_nI (k := N) (by omega), e _ _ _ hw, ck_t hi, lt1_i, sA_nI (k := N) (by omega), e _ _ _ (e _ _ _ hw), ck_t hip, lt1_i, sA_nI (k := p) (by omega)]
    have e3 : rF (rg_R (rg_R (rg_R w (q + 5) N (s1 + s0)) (q + 6) N l5) (q + 11) p (nI N)) q 11 = nI N := hw
    rw [e3, lt1_i, ck_t h6, nI_1]
  have j51 : ∀ s0 : Int32, (s0 = 0 ∨ s0 = 1) → g_X6_add_j51 F q x (nI p) s n (u.2.1 (q + 11) p) s0 u = some (s0, addS u q N p x s n (vS (u.2.1 (q + 5)) 0 (u.2.1 (q + 11) p) + s0) (u.2.1 (q + 11) p)) := by
    intro s0 h0
    unfold g_X6_add_j51
    rw [hN, ck_t hi, lt1_i, sA_nI (by omega), e _ _ _ hN, ck_t hi, lt1_i, sA_nI (by omega), e _ _ _ (e _ _ _ hN), ck_t hi, lt1_i, sA_nI (by omega), e _ _ _ (e _ _ _ (e _ _ _ hN)), ck_t hi, lt1_i, sA_nI (by omega)]
    have hw : rF (rg_R (rg_R (rg_R (rg_R u (q + 1) N x) (q + 2) N (nI p)) (q + 3) N s) (q + 4) N n) q 11 = nI N := hN
    rw [x6_changes hw (by omega) hl, ob_i, hw, R_n (by omega), R_n (by omega), R_n (by omega), R_n (by omega)]
    rcases h0 with rfl | rfl
    · rw [if_pos rfl, j118 _ _ _ _ _ hw (Or.inl rfl)]
      rfl
    · rw [if_neg (by decide), j118 _ _ _ _ _ hw (Or.inr rfl)]
      rfl
  unfold g_X6_add
  rw [if_neg (by rw [cl_place]; exact in_nI (a := 0) (b := 39) (by omega) (by omega) (by decide)), hN, if_neg (nI_pos (by omega)), if_pos (show nI N < 3800 from nI_lt (a := N) (b := 3800) h8 (by decide)), ck_t hip, rA_nI (by omega), x6_value hN (by omega) hl, ob_i]
  by_cases h : sameV u q (u.2.1 (q + 11) p) s n
  · rw [if_pos h, if_neg (by decide), j51 0 (Or.inl rfl), if_pos h]
  · rw [if_neg h, if_pos rfl, j51 1 (Or.inr rfl), if_neg h]
theorem c_rest (hN : rF u q 11 = nI (N + 1)) (h8 : N < 3800) : g_X6_restLatestOn F q a b c d u = some (restS u q N a b c d) := by
  have hi : inb (nI N) 3800 := inb_nI h8 (by decide)
  unfold g_X6_restLatestOn
  rw [hN, nI_pred, x6_has_y hN (by omega) (by omega), ob_i, if_neg (by decide), ck_t hi, lt1_i, ck_t hi, lt1_i, ck_t hi, lt1_i, ck_t hi, lt1_i, sA_nI (by omega), sA_nI (by omega), sA_nI (by omega), sA_nI (by omega)]
  rfl
theorem lat_up {pp : Nat → Int32} {k N p' : Nat} {y : Int32} (h : k ≤ N) : lat (upd pp N y) p' k = lat pp p' k := lat_c k (fun i hi => by rw [pk_un (by omega)])
theorem vS_up {f : Nat → Int32} {y e x : Int32} (h : isPt N x) (hN : N < 2 ^ 31) : vS (upd f N y) e x = vS f e x := by
  rcases h with rfl | ⟨k, hk, rfl⟩
  · rw [vS_0, vS_0]
  · rw [vS_n (by omega), vS_n (by omega), pk_un (by omega)]
/-- what is added to the table -/
theorem PI_add {t : Nat} (h : PI u q T N) (h8 : N < 3800) (hp : p < 40) (hT : T ≤ t) (ht : t ≤ 3000) : PI (addS u q N p (nI t) s n (vS (u.2.1 (q + 5)) 0 (u.2.1 (q + 11) p) + (if sameV u q (u.2.1 (q + 11) p) s n then 0 else 1)) (u.2.1 (q + 11) p)) q t (N + 1) := by
  obtain ⟨hN, -, -, hm, hl, hx⟩ := id h
  have hpt := lat_pt (pp := u.2.1 (q + 2)) (p := p) N
  unfold PI
  rw [addS_1, addS_2, addS_3, addS_4, addS_5, addS_6, addS_11]
  refine ⟨sF_y, h8, ht, fun i j hij hj => ?_, fun p' hp' => ?_, fun i hi => ?_⟩
  · rw [pk_un (show i ≠ N by omega)]
    by_cases e : j = N
    · subst e
      rw [pk_us, tnn (by omega)]
      obtain ⟨s', -, hs, -, e1, -⟩ := hx i hij
      rw [e1, tnn (by have := h.2.2.1; omega)]
      omega
    · rw [pk_un e]
      exact hm i j hij (by omega)
  · by_cases e : p' = p
    · subst e
      rw [pk_us, lat_y pk_us]
    · rw [pk_un e, lat_n (by rw [pk_us]; exact fun z => e (nI_inj (by omega) (by omega) z.symm)), lat_up (Nat.le_refl _), hl p' hp']
  · by_cases e : i = N
    · subst e
      refine ⟨t, p, Nat.le_refl _, hp, pk_us, pk_us, ?_, ?_⟩
      · rw [pk_us, hl p hp, lat_up (Nat.le_refl _)]
      · rw [pk_us, pk_us, pk_us, pk_us, hl p hp, vS_up hpt (by omega), vS_up hpt (by omega), vS_up hpt (by omega)]
    · obtain ⟨s', p', h1, h2, h3, h4, h5, h6⟩ := hx i (by omega)
      have hpi : isPt N (u.2.1 (q + 6) i) := by rw [h5]; exact lat_ok (by omega)
      refine ⟨s', p', by omega, h2, by rw [pk_un e]; exact h3, by rw [pk_un e]; exact h4, by rw [pk_un e, lat_up (by omega)]; exact h5, ?_⟩
      rw [pk_un e, pk_un e, pk_un e, pk_un e, vS_up hpi (by omega), vS_up hpi (by omega), vS_up hpi (by omega)]
      exact h6
theorem PRow_add {k : Nat} {m : Row} (h : PRow u q k m) (hk : k ≤ N) (hN : N < 2 ^ 31) : PRow (addS u q N p x s n ch old) q k m := by
  intro p' hp'
  rw [addS_2, addS_3, addS_4, addS_5, lat_up hk, vS_up (lat_ok hk) hN, vS_up (lat_ok hk) hN, vS_up (lat_ok hk) hN]
  exact h p' hp'
theorem PRow_new {m : Row} (hl : u.2.1 (q + 11) p = lat (u.2.1 (q + 2)) p N) (h : PRow u q N m) (hN : N < 2 ^ 31) (hp : p < 40) : PRow (addS u q N p x s n (vS (u.2.1 (q + 5)) 0 (u.2.1 (q + 11) p) + (if sameV u q (u.2.1 (q + 11) p) s n then 0 else 1)) (u.2.1 (q + 11) p)) q (N + 1) (mput m p s n) := by
  intro p' hp'
  rw [addS_2, addS_3, addS_4, addS_5]
  unfold mput
  by_cases e : p' = p
  · subst e
    obtain ⟨h1, h2, h3⟩ := h p' hp'
    rw [lat_y pk_us, vS_n hN, vS_n hN, vS_n hN, pk_us, pk_us, pk_us, pk_un (show p' ≠ 40 + p' by omega), pk_us, pk_us, pk_un (show 80 + p' ≠ 40 + p' by omega), pk_un (show 80 + p' ≠ p' by omega), pk_us, h1, h2, h3, hl]
    exact ⟨rfl, rfl, rfl⟩
  · rw [lat_n (by rw [pk_us]; exact fun z => e (nI_inj (by omega) (by omega) z.symm)), lat_up (Nat.le_refl _), vS_up (lat_pt N) hN, vS_up (lat_pt N) hN, vS_up (lat_pt N) hN, pk_un (show p' ≠ 40 + p by omega), pk_un e, pk_un (show p' ≠ 80 + p by omega), pk_un (show 40 + p' ≠ 40 + p by omega), pk_un (show 40 + p' ≠ p by omega), pk_un (show 40 + p' ≠ 80 + p by omega), pk_un (show 80 + p' ≠ 40 + p by omega), pk_un (show 80 + p' ≠ p by omega), pk_un (show 80 + p' ≠ 80 + p by omega)]
    exact h p' hp'
theorem cP_add {t k : Nat} (hk : k < t) (ht : t < 2 ^ 31) : cP ((addS u q N p (nI t) s n ch old).2.1 (q + 1)) k (N + 1) = cP (u.2.1 (q + 1)) k N := by
  rw [addS_1, cP_n (by rw [pk_us, tnn ht]; omega)]
  exact cP_c N (fun i hi => pk_un (by omega))
theorem cP_addT {t k : Nat} (hk : t ≤ k) (ht : t < 2 ^ 31) : cP ((addS u q N p (nI t) s n ch old).2.1 (q + 1)) k (N + 1) = N + 1 := by
  rw [addS_1, cP_y (by rw [pk_us, tnn ht]; exact hk)]
/-- the table asks for its own arrays alone -/
theorem PI_c {u' : rg_U} (h : PI u q T N) (hf : u'.1 (100 * q + 11) = u.1 (100 * q + 11)) (ha : ∀ j, q + 1 ≤ j → j ≤ q + 6 → u'.2.1 j = u.2.1 j) (hb : u'.2.1 (q + 11) = u.2.1 (q + 11)) : PI u' q T N := by
  unfold PI rF at *
  rw [hf, ha (q + 1) (by omega) (by omega), ha (q + 2) (by omega) (by omega), ha (q + 3) (by omega) (by omega), ha (q + 4) (by omega) (by omega), ha (q + 5) (by omega) (by omega), ha (q + 6) (by omega) (by omega), hb]
  exact h
theorem PRow_c {u' : rg_U} {m : Row} {k : Nat} (h : PRow u q k m) (ha : ∀ j, q + 1 ≤ j → j ≤ q + 6 → u'.2.1 j = u.2.1 j) : PRow u' q k m := by
  unfold PRow at *
  rw [ha (q + 2) (by omega) (by omega), ha (q + 3) (by omega) (by omega), ha (q + 4) (by omega) (by omega), ha (q + 5) (by omega) (by omega)]
  exact h
/-- back to t -/
theorem c_dropPuts {t : Nat} (h : PI u q T N) (ht : t ≤ T) (hF : 10000 < F) : ∃ w, g_X6_dropBehind F q (nI t) u = some w ∧ w.2.2 = u.2.2 ∧ (∀ j, j ≠ q + 11 → w.2.1 j = u.2.1 j) ∧ (∀ k, k ≠ 100 * q + 11 → w.1 k = u.1 k) ∧ PI w q t (cP (u.2.1 (q + 1)) t N) := by
  obtain ⟨hN, h8, hT, hm, hl, hx⟩ := id h
  have key : Tt (g_X6_dropBehind F q (nI t) u) (fun w => w.2.2 = u.2.2 ∧ (∀ j, j ≠ q + 11 → w.2.1 j = u.2.1 j) ∧ (∀ k, k ≠ 100 * q + 11 → w.1 k = u.1 k) ∧ rF w q 11 = nI (cP (u.2.1 (q + 1)) t N) ∧ ∀ p, p < 40 → w.2.1 (q + 11) p = lat (u.2.1 (q + 2)) p (cP (u.2.1 (q + 1)) t N)) := by
    unfold g_X6_dropBehind
    rw [hN]
    refine tt_b (tt_lp (I := fun s => ∃ M, M ≤ N ∧ cP (u.2.1 (q + 1)) t N ≤ M ∧ s.1 = nI M - 1 ∧ s.2.2.2 = u.2.2 ∧ (∀ j, j ≠ q + 11 → s.2.2.1 j = u.2.1 j) ∧ (∀ k, k ≠ 100 * q + 11 → s.2.1 k = u.1 k) ∧ rF s.2 q 11 = nI M ∧ ∀ p, p < 40 → s.2.2.1 (q + 11) p = lat (u.2.1 (q + 2)) p M) (m := fun s => (s.1.toInt + 1).toNat) (P := fun w => w.2.2 = u.2.2 ∧ (∀ j, j ≠ q + 11 → w.2.1 j = u.2.1 j) ∧ (∀ k, k ≠ 100 * q + 11 → w.1 k = u.1 k) ∧ rF w q 11 = nI (cP (u.2.1 (q + 1)) t N) ∧ ∀ p, p < 40 → w.2.1 (q + 11) p = lat (u.2.1 (q + 2)) p (cP (u.2.1 (q + 1)) t N)) ?_ F _ ?_ ?_) (fun _ z => z)
    · rintro ⟨a, w⟩ ⟨M, h1, h2, h3, h4, h5, h6, h7, h9⟩
      dsimp only at h3 h4 h5 h6 h7 h9 ⊢
      unfold g_X6_dropBehind_l7 g_X6_dropBehind_j49
      cases M with
      | zero =>
        have ec : cP (u.2.1 (q + 1)) t N = 0 := by omega
        rw [if_pos (by rw [h3]; decide), ec]
        exact tt_r ⟨h4, h5, h6, h7, h9⟩
      | succ M =>
        have e1 : a = nI M := by rw [h3]; exact nI_pred M
        subst e1
        have ea : ∀ j, j ≠ q + 11 → w.2.1 j = u.2.1 j := h5
        rw [if_neg (nI_pos (by omega)), x6_time h7 (by omega) (Or.inr ⟨M, by omega, rfl⟩), ob_i, vS_n (by omega), ea (q + 1) (by omega)]
        obtain ⟨s', p', b1, b2, b3, b4, b5, -⟩ := hx M (by omega)
        by_cases z : u.2.1 (q + 1) M ≤ nI t
        · rw [if_pos z]
          have z2 := (cP_iff N hm M (by omega)).mpr ((PI_t h (by omega) (by omega)).mp z)
          have ec : cP (u.2.1 (q + 1)) t N = M + 1 := by omega
          rw [ec]
          exact tt_r ⟨h4, h5, h6, h7, h9⟩
        · rw [if_neg z]
          have z2 : ¬ M < cP (u.2.1 (q + 1)) t N := fun y => z ((PI_t h (by omega) (by omega)).mpr ((cP_iff N hm M (by omega)).mp y))
          have hi : inb (nI M) 3800 := inb_nI (by omega) (by decide)
          have hi2 : inb (nI p') 40 := inb_nI b2 (by decide)
          rw [ck_t hi, rA_nI (by omega), ea (q + 2) (by omega), b4, if_neg (by rw [cl_place]; exact in_nI (a := 0) (b := 39) (by omega) (by omega) (by decide)), ck_t hi, ck_t hi, ck_t hi2, rA_nI (by omega), ea (q + 6) (by omega), b5, lt1_i, sA_nI (by omega), lt1_i]
          refine tt_l ⟨⟨M, by omega, by omega, ?_, h4, fun j hj => ?_, fun k hk => ?_, sF_y, fun p hp => ?_⟩, ?_⟩
          · dsimp only
            rw [Int32.sub_eq_add_neg]
          · rw [sF_A, R_n hj]; exact h5 j hj
          · rw [sF_n hk]; exact h6 k hk
          · rw [sF_A, R_s]
            by_cases e : p = p'
            · subst e; rw [pk_us]
            · rw [pk_un e, h9 p hp, lat_n (by rw [b4]; exact fun z => e (nI_inj (by omega) (by omega) z.symm))]
          · exact ms_d1 (by omega)
    · exact ms_i (by omega) (by omega)
    · exact ⟨N, Nat.le_refl _, cP_le N, rfl, rfl, fun _ _ => rfl, fun _ _ => rfl, hN, hl⟩
  obtain ⟨w, e, w1, w2, w3, w4, w5⟩ := key
  have hc := cP_le (pt := u.2.1 (q + 1)) (t := t) N
  refine ⟨w, e, w1, w2, w3, w4, by omega, by omega, ?_, ?_, ?_⟩
  · rw [w2 (q + 1) (by omega)]
    exact fun i j hij hj => hm i j hij (by omega)
  · rw [w2 (q + 2) (by omega)]
    exact w5
  · intro i hi
    obtain ⟨s', p', b1, b2, b3, b4, b5, b6⟩ := hx i (by omega)
    have := (cP_iff N hm i (by omega)).mp hi
    rw [b3, tnn (by omega)] at this
    rw [w2 (q + 1) (by omega), w2 (q + 2) (by omega), w2 (q + 3) (by omega), w2 (q + 4) (by omega), w2 (q + 5) (by omega), w2 (q + 6) (by omega)]
    exact ⟨s', p', this, b2, b3, b4, b5, b6⟩
theorem cP_cut {pt : Nat → Int32} {s t : Nat} (hm : monoP pt N) (h : s ≤ t) : cP pt s (cP pt t N) = cP pt s N := by
  refine (cP_up N (cP_le N) (fun k h1 h2 z => ?_)).symm
  have := (cP_iff (t := t) N hm k h2).mpr (Nat.le_trans z h)
  omega
end XA
