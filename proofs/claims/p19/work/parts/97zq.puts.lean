/-! the class's table of puts: which put a place has, by when -/
theorem ms_d0 {k : Nat} (h0 : 0 < k) (h : k < 2 ^ 31) : (nI k + -1).toInt.toNat < (nI k).toInt.toNat := by
  have e : nI k + -1 = nI (k - 1) := by
    have := nI_dec (k := k - 1)
    rwa [show k - 1 + 1 = k by omega] at this
  rw [e, nI_toInt (by omega), nI_toInt h, Int.toNat_natCast, Int.toNat_natCast]
  omega
theorem ms_d1 {k : Nat} (h : k < 2 ^ 31) : ((nI k + -1).toInt + 1).toNat < ((nI k).toInt + 1).toNat := by
  have t1 := nI_toInt h
  generalize nI k = x at t1 ⊢
  have t2 := t_d1 (x := x) (by omega)
  generalize (x + -1).toInt = y at t2 ⊢
  omega
theorem ms_u {k C : Nat} (hk : k < C) (h : C < 2 ^ 31) : ((C : Int) - (nI k + 1).toInt).toNat < ((C : Int) - (nI k).toInt).toNat := by
  have t1 := nI_toInt (n := k) (by omega)
  generalize nI k = x at t1 ⊢
  have t2 := t_a1 (x := x) (by omega)
  generalize (x + 1).toInt = y at t2 ⊢
  omega
theorem ms_i {N F : Nat} (h : N < F) (hN : N < 2 ^ 31) : ((nI N - 1).toInt + 1).toNat < F := by
  have t1 := nI_toInt hN
  generalize nI N = x at t1 ⊢
  have t2 := t_s1 (x := x) (by omega)
  generalize (x - 1).toInt = y at t2 ⊢
  omega
theorem ms_n {N F : Nat} (h : N < F) (hN : N < 2 ^ 31) : (nI N).toInt.toNat < F := by
  rw [nI_toInt hN, Int.toNat_natCast]
  exact h
theorem ms_0 {C F : Nat} (h : C < F) : ((C : Int) - (0 : Int32).toInt).toNat < F := by
  rw [t_0, Int.sub_zero, Int.toNat_natCast]
  exact h
def isPt (N : Nat) (x : Int32) : Prop := x = -1 ∨ ∃ n, n < N ∧ x = nI n
/-- what a put has; d without one -/
def vS (f : Nat → Int32) (d x : Int32) : Int32 := if x = -1 then d else f (tn x)
theorem vS_0 {f : Nat → Int32} {d : Int32} : vS f d (-1) = d := if_pos rfl
theorem vS_n {f : Nat → Int32} {d : Int32} {n : Nat} (h : n < 2 ^ 31) : vS f d (nI n) = f n := by
  unfold vS
  rw [if_neg (nI_m1 h), tnn h]
/-- the latest put to p ahead of the n-th -/
def lat (pp : Nat → Int32) (p : Nat) : Nat → Int32
  | 0 => -1
  | n + 1 => if pp n = nI p then nI n else lat pp p n
theorem lat_y {pp : Nat → Int32} {p n : Nat} (h : pp n = nI p) : lat pp p (n + 1) = nI n := if_pos h
theorem lat_n {pp : Nat → Int32} {p n : Nat} (h : ¬ pp n = nI p) : lat pp p (n + 1) = lat pp p n := if_neg h
theorem lat_pt {pp : Nat → Int32} {p : Nat} : ∀ N, isPt N (lat pp p N)
  | 0 => Or.inl rfl
  | n + 1 => by
    by_cases h : pp n = nI p
    · rw [lat_y h]; exact Or.inr ⟨n, Nat.lt_succ_self n, rfl⟩
    · rw [lat_n h]
      rcases lat_pt (pp := pp) (p := p) n with q | ⟨k, hk, q⟩
      · exact Or.inl q
      · exact Or.inr ⟨k, by omega, q⟩
theorem isPt_le {M N : Nat} {x : Int32} (h : isPt M x) (hMN : M ≤ N) : isPt N x := by
  rcases h with q | ⟨k, hk, q⟩
  · exact Or.inl q
  · exact Or.inr ⟨k, by omega, q⟩
theorem lat_c {pp pp' : Nat → Int32} {p : Nat} : ∀ N, (∀ n, n < N → pp' n = pp n) → lat pp' p N = lat pp p N
  | 0, _ => rfl
  | n + 1, h => by
    unfold lat
    rw [h n (by omega), lat_c n (fun k hk => h k (by omega))]
/-- what the latest one is -/
theorem lat_some {pp : Nat → Int32} {p n : Nat} : ∀ N, N < 2 ^ 31 → lat pp p N = nI n → n < 2 ^ 31 → n < N ∧ pp n = nI p ∧ ∀ k, n < k → k < N → ¬ pp k = nI p
  | 0, _, h, hn => absurd h.symm (nI_m1 hn)
  | N + 1, hN, h, hn => by
    by_cases q : pp N = nI p
    · rw [lat_y q] at h
      have := nI_inj (by omega) hn h
      subst this
      exact ⟨Nat.lt_succ_self _, q, fun k h1 h2 => by omega⟩
    · rw [lat_n q] at h
      obtain ⟨a, b, c⟩ := lat_some N (by omega) h hn
      refine ⟨by omega, b, fun k h1 h2 => ?_⟩
      rcases Nat.lt_or_ge k N with y | y
      · exact c k h1 y
      · rw [show k = N by omega]; exact q
theorem lat_none {pp : Nat → Int32} {p : Nat} : ∀ N, N < 2 ^ 31 → lat pp p N = -1 → ∀ k, k < N → ¬ pp k = nI p
  | 0, _, _, k, hk => by omega
  | N + 1, hN, h, k, hk => by
    by_cases q : pp N = nI p
    · rw [lat_y q] at h
      exact absurd h (nI_m1 (by omega))
    · rw [lat_n q] at h
      rcases Nat.lt_or_ge k N with y | y
      · exact lat_none N (by omega) h k y
      · rw [show k = N by omega]; exact q
/-- none between: the latest is the same -/
theorem lat_skip {pp : Nat → Int32} {p M : Nat} : ∀ N, M ≤ N → (∀ k, M ≤ k → k < N → ¬ pp k = nI p) → lat pp p N = lat pp p M
  | 0, h, _ => by rw [show M = 0 by omega]
  | N + 1, h, hk => by
    rcases Nat.lt_or_ge N M with y | y
    · rw [show M = N + 1 by omega]
    · rw [lat_n (hk N y (by omega))]
      exact lat_skip N y (fun k h1 h2 => hk k h1 (by omega))
theorem lat_at {pp : Nat → Int32} {p n N : Nat} (hn : n < N) (h : pp n = nI p) (hk : ∀ k, n < k → k < N → ¬ pp k = nI p) : lat pp p N = nI n := by
  rw [lat_skip (M := n + 1) N hn (fun k h1 h2 => hk k h1 h2), lat_y h]
/-- how many came by t -/
def cP (pt : Nat → Int32) (t : Nat) : Nat → Nat
  | 0 => 0
  | n + 1 => if tn (pt n) ≤ t then n + 1 else cP pt t n
def monoP (pt : Nat → Int32) (N : Nat) : Prop := ∀ i j, i < j → j < N → tn (pt i) ≤ tn (pt j)
theorem cP_le {pt : Nat → Int32} {t : Nat} : ∀ N, cP pt t N ≤ N
  | 0 => Nat.le_refl _
  | n + 1 => by
    unfold cP
    have := cP_le (pt := pt) (t := t) n
    split <;> omega
theorem cP_c {pt pt' : Nat → Int32} {t : Nat} : ∀ N, (∀ n, n < N → pt' n = pt n) → cP pt' t N = cP pt t N
  | 0, _ => rfl
  | n + 1, h => by
    unfold cP
    rw [h n (by omega), cP_c n (fun k hk => h k (by omega))]
theorem cP_y {pt : Nat → Int32} {t n : Nat} (h : tn (pt n) ≤ t) : cP pt t (n + 1) = n + 1 := if_pos h
theorem cP_n {pt : Nat → Int32} {t n : Nat} (h : ¬ tn (pt n) ≤ t) : cP pt t (n + 1) = cP pt t n := if_neg h
theorem cP_iff {pt : Nat → Int32} {t : Nat} : ∀ N, monoP pt N → ∀ n, n < N → (n < cP pt t N ↔ tn (pt n) ≤ t)
  | 0, _, n, hn => by omega
  | N + 1, hm, n, hn => by
    by_cases q : tn (pt N) ≤ t
    · rw [cP_y q]
      refine ⟨fun _ => ?_, fun _ => hn⟩
      rcases Nat.lt_or_ge n N with y | y
      · exact Nat.le_trans (hm n N y (by omega)) q
      · rw [show n = N by omega]; exact q
    · rw [cP_n q]
      rcases Nat.lt_or_ge n N with y | y
      · exact cP_iff N (fun i j h1 h2 => hm i j h1 (by omega)) n y
      · rw [show n = N by omega]
        have := cP_le (pt := pt) (t := t) N
        exact ⟨fun z => by omega, fun z => absurd z q⟩
theorem cP_all {pt : Nat → Int32} {t : Nat} {N : Nat} (h : ∀ n, n < N → tn (pt n) ≤ t) : cP pt t N = N := by
  cases N with
  | zero => rfl
  | succ n => exact cP_y (h n (by omega))
theorem cP_up {pt : Nat → Int32} {t M : Nat} : ∀ N, M ≤ N → (∀ k, M ≤ k → k < N → ¬ tn (pt k) ≤ t) → cP pt t N = cP pt t M
  | 0, h, _ => by rw [show M = 0 by omega]
  | N + 1, h, hk => by
    rcases Nat.lt_or_ge N M with y | y
    · rw [show M = N + 1 by omega]
    · rw [cP_n (hk N y (by omega))]
      exact cP_up N y (fun k h1 h2 => hk k h1 (by omega))
theorem cP_mono {pt : Nat → Int32} {s t : Nat} (h : s ≤ t) : ∀ N, cP pt s N ≤ cP pt t N
  | 0 => Nat.le_refl _
  | N + 1 => by
    by_cases q : tn (pt N) ≤ s
    · rw [cP_y q, cP_y (by omega)]; exact Nat.le_refl _
    · rw [cP_n q]
      have := cP_mono (pt := pt) h N
      by_cases q2 : tn (pt N) ≤ t
      · rw [cP_y q2]
        have := cP_le (pt := pt) (t := s) N
        omega
      · rw [cP_n q2]; exact this
/-- what lies in the table, up to time T -/
def PI (u : rg_U) (q T N : Nat) : Prop := rF u q 11 = nI N ∧ N ≤ 3800 ∧ T ≤ 3000 ∧ monoP (u.2.1 (q + 1)) N ∧ (∀ p, p < 40 → u.2.1 (q + 11) p = lat (u.2.1 (q + 2)) p N) ∧ ∀ n, n < N → ∃ s p, s ≤ T ∧ p < 40 ∧ u.2.1 (q + 1) n = nI s ∧ u.2.1 (q + 2) n = nI p ∧ u.2.1 (q + 6) n = lat (u.2.1 (q + 2)) p n ∧ u.2.1 (q + 5) n = vS (u.2.1 (q + 5)) 0 (u.2.1 (q + 6) n) + (if vS (u.2.1 (q + 3)) 0 (u.2.1 (q + 6) n) = u.2.1 (q + 3) n ∧ vS (u.2.1 (q + 4)) 0 (u.2.1 (q + 6) n) = u.2.1 (q + 4) n then 0 else 1)
/-- a row as the first n puts make it -/
def PRow (u : rg_U) (q n : Nat) (m : Row) : Prop := ∀ p, p < 40 → m p = vS (u.2.1 (q + 3)) 0 (lat (u.2.1 (q + 2)) p n) ∧ m (40 + p) = vS (u.2.1 (q + 4)) 0 (lat (u.2.1 (q + 2)) p n) ∧ m (80 + p) = vS (u.2.1 (q + 5)) 0 (lat (u.2.1 (q + 2)) p n)
section XP
variable {F q T N : Nat} {x y z : Int32} {u : rg_U}
theorem pt_lt {n : Nat} (hN : N ≤ 3800) (h : n < N) : n < 2 ^ 31 := by omega
theorem x6_has_y {n : Nat} (hN : rF u q 11 = nI N) (h8 : N ≤ 3800) (h : n < N) : g_X6_has F q (nI n) u = some 1 := by
  unfold g_X6_has
  rw [if_neg (nI_pos (by omega)), hN, if_neg (nI_ge h (by omega)), if_neg (show ¬ (3800 : Int32) ≤ nI n from nI_ge (a := n) (b := 3800) (by omega) (by decide))]
theorem x6_has_n : g_X6_has F q (-1) u = some 0 := by
  unfold g_X6_has
  rw [if_pos (by decide)]
theorem x6_time (hN : rF u q 11 = nI N) (h8 : N ≤ 3800) (h : isPt N x) : g_X6_timeOf F q x u = some (vS (u.2.1 (q + 1)) 0 x) := by
  unfold g_X6_timeOf
  rcases h with rfl | ⟨n, hn, rfl⟩
  · rw [x6_has_n, ob_i, if_pos rfl, vS_0]
  · rw [x6_has_y hN h8 hn, ob_i, if_neg (by decide), ck_t (inb_nI (by omega) (by decide)), rA_nI (by omega), vS_n (by omega)]
theorem x6_place (hN : rF u q 11 = nI N) (h8 : N ≤ 3800) (h : isPt N x) : g_X6_placeOf F q x u = some (vS (u.2.1 (q + 2)) (-1) x) := by
  unfold g_X6_placeOf
  rcases h with rfl | ⟨n, hn, rfl⟩
  · rw [x6_has_n, ob_i, if_pos rfl, vS_0]
  · rw [x6_has_y hN h8 hn, ob_i, if_neg (by decide), ck_t (inb_nI (by omega) (by decide)), rA_nI (by omega), vS_n (by omega)]
theorem x6_changes (hN : rF u q 11 = nI N) (h8 : N ≤ 3800) (h : isPt N x) : g_X6_changesOf F q x u = some (vS (u.2.1 (q + 5)) 0 x) := by
  unfold g_X6_changesOf
  rcases h with rfl | ⟨n, hn, rfl⟩
  · rw [x6_has_n, ob_i, if_pos rfl, vS_0]
  · rw [x6_has_y hN h8 hn, ob_i, if_neg (by decide), ck_t (inb_nI (by omega) (by decide)), rA_nI (by omega), vS_n (by omega)]
theorem x6_ahead (hN : rF u q 11 = nI N) (h8 : N ≤ 3800) (h : isPt N x) : g_X6_aheadOf F q x u = some (vS (u.2.1 (q + 6)) (-1) x) := by
  unfold g_X6_aheadOf
  rcases h with rfl | ⟨n, hn, rfl⟩
  · rw [x6_has_n, ob_i, if_pos rfl, vS_0]
  · rw [x6_has_y hN h8 hn, ob_i, if_neg (by decide), ck_t (inb_nI (by omega) (by decide)), rA_nI (by omega), vS_n (by omega)]
theorem x6_sort (hN : rF u q 11 = nI N) (h8 : N ≤ 3800) (h : isPt N x) : g_X6_sortOf F q x u = some (vS (u.2.1 (q + 3)) 0 x) := by
  unfold g_X6_sortOf
  rcases h with rfl | ⟨n, hn, rfl⟩
  · rw [if_pos (by decide), vS_0]
  · rw [if_neg (nI_pos (by omega)), hN, if_neg (nI_ge hn (by omega)), if_neg (show ¬ (3800 : Int32) ≤ nI n from nI_ge (a := n) (b := 3800) (by omega) (by decide)), ck_t (inb_nI (by omega) (by decide)), rA_nI (by omega), vS_n (by omega)]
theorem x6_number (hN : rF u q 11 = nI N) (h8 : N ≤ 3800) (h : isPt N x) : g_X6_numberOf F q x u = some (vS (u.2.1 (q + 4)) 0 x) := by
  unfold g_X6_numberOf
  rcases h with rfl | ⟨n, hn, rfl⟩
  · rw [if_pos (by decide), vS_0]
  · rw [if_neg (nI_pos (by omega)), hN, if_neg (nI_ge hn (by omega)), if_neg (show ¬ (3800 : Int32) ≤ nI n from nI_ge (a := n) (b := 3800) (by omega) (by decide)), ck_t (inb_nI (by omega) (by decide)), rA_nI (by omega), vS_n (by omega)]
theorem x6_value {s n : Int32} (hN : rF u q 11 = nI N) (h8 : N ≤ 3800) (h : isPt N x) : g_X6_hasValue F q x s n u = some (if vS (u.2.1 (q + 3)) 0 x = s ∧ vS (u.2.1 (q + 4)) 0 x = n then 1 else 0) := by
  unfold g_X6_hasValue
  rw [x6_sort hN h8 h, ob_i]
  by_cases a : vS (u.2.1 (q + 3)) 0 x = s
  · rw [if_pos a, x6_number hN h8 h, ob_i]
    by_cases b : vS (u.2.1 (q + 4)) 0 x = n
    · rw [if_pos b, if_pos ⟨a, b⟩]
    · rw [if_neg b, if_neg (fun z => b z.2)]
  · rw [if_neg a, if_neg (fun z => a z.1)]
theorem x6_latest {p : Nat} (hp : p < 40) : g_X6_latestOf F q (nI p) u = some (u.2.1 (q + 11) p) := by
  unfold g_X6_latestOf
  rw [if_neg (by rw [cl_place]; exact in_nI (a := 0) (b := 39) (by omega) (by omega) (by decide)), ck_t (inb_nI hp (by decide)), rA_nI (by omega)]
theorem PI_N (h : PI u q T N) : rF u q 11 = nI N := h.1
theorem PI_8 (h : PI u q T N) : N ≤ 3800 := h.2.1
theorem lat_ok {p n : Nat} {pp : Nat → Int32} (hn : n ≤ N) : isPt N (lat pp p n) := isPt_le (lat_pt n) hn
theorem tt_eq {α : Type} {x : Option α} {y : α} (h : Tt x (fun r => r = y)) : x = some y := by
  obtain ⟨r, e, hr⟩ := h
  rw [e, hr]
theorem eq_tt {α : Type} {x : Option α} {y : α} {P : α → Prop} (h : x = some y) (hP : P y) : Tt x P := ⟨y, h, hP⟩
theorem PI_t {n t : Nat} (h : PI u q T N) (hn : n < N) (ht : t < 2 ^ 31) : u.2.1 (q + 1) n ≤ nI t ↔ tn (u.2.1 (q + 1) n) ≤ t := by
  obtain ⟨s, p, hs, -, e, -⟩ := h.2.2.2.2.2 n hn
  have := h.2.2.1
  rw [e, tnn (by omega), nI_leI (by omega) ht]
/-- the put that a place has by t -/
theorem c_putBy {t p : Nat} (h : PI u q T N) (hp : p < 40) (ht : t < 2 ^ 31) (hF : 10000 < F) : g_X6_putBy F q (nI t) (nI p) u = some (lat (u.2.1 (q + 2)) p (cP (u.2.1 (q + 1)) t N)) := by
  obtain ⟨hN, h8, hT, hm, hl, hx⟩ := id h
  unfold g_X6_putBy
  rw [x6_latest hp, ob_i, hl p hp, hN]
  refine tt_eq (tt_b (tt_lp (I := fun s => ∃ M k : Nat, s.1 = lat (u.2.1 (q + 2)) p M ∧ s.2 = nI k ∧ M ≤ N ∧ cP (u.2.1 (q + 1)) t N ≤ M ∧ M ≤ k ∧ k ≤ N) (m := fun s => s.2.toInt.toNat) (P := fun r => r = lat (u.2.1 (q + 2)) p (cP (u.2.1 (q + 1)) t N)) ?_ F _ ?_ ?_) (fun _ q => q))
  · rintro ⟨a, b⟩ ⟨M, k, ea, eb, h1, h2, h3, h4⟩
    dsimp only at ea eb ⊢
    subst ea eb
    unfold g_X6_putBy_l12
    by_cases k0 : k = 0
    · have e0 : M = 0 := by omega
      have ec : cP (u.2.1 (q + 1)) t N = 0 := by omega
      subst k0 e0
      rw [if_pos (by decide), ec]
      exact tt_r rfl
    rw [if_neg (nI_nle (by omega) (by omega))]
    rcases lat_pt (pp := u.2.1 (q + 2)) (p := p) M with e | ⟨n, hn, e⟩
    · have e2 : lat (u.2.1 (q + 2)) p (cP (u.2.1 (q + 1)) t N) = -1 := by
        rw [← lat_skip M h2 (fun k _ h2 => lat_none M (by omega) e k h2)]
        exact e
      rw [e, x6_time hN h8 (Or.inl rfl), ob_i, vS_0, if_pos (nI_pos' ht), e2]
      exact tt_r rfl
    · obtain ⟨a1, a2, a3⟩ := lat_some M (by omega) e (by omega)
      obtain ⟨s, p', hs, hp', b1, b2, b3, -⟩ := hx n (by omega)
      have epp : p' = p := nI_inj (by omega) (by omega) (b2.symm.trans a2)
      subst epp
      rw [e, x6_time hN h8 (Or.inr ⟨n, by omega, rfl⟩), ob_i, vS_n (by omega)]
      by_cases c : n < cP (u.2.1 (q + 1)) t N
      · rw [lat_at (N := cP (u.2.1 (q + 1)) t N) c a2 (fun k h3 h4 => a3 k h3 (by omega)), if_pos ((PI_t h (by omega) ht).mpr ((cP_iff N hm n (by omega)).mp c))]
        exact tt_r rfl
      · rw [if_neg (fun z => c ((cP_iff N hm n (by omega)).mpr ((PI_t h (by omega) ht).mp z))), x6_ahead hN h8 (Or.inr ⟨n, by omega, rfl⟩), ob_i, vS_n (by omega), b3]
        refine tt_l ⟨⟨n, k - 1, rfl, ?_, by omega, by omega, by omega, by omega⟩, ?_⟩
        · show nI k + -1 = nI (k - 1)
          have := nI_dec (k := k - 1)
          rwa [show k - 1 + 1 = k by omega] at this
        · exact ms_d0 (by omega) (by omega)
  · exact ms_n (by omega) (by omega)
  · exact ⟨N, N, rfl, rfl, Nat.le_refl _, cP_le N, Nat.le_refl _, Nat.le_refl _⟩
end XP
