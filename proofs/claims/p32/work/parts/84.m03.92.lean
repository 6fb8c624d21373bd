section W_9
-- 92.mach
theorem fine_abc {k : Nat} {a b c : Int32} (hk : k < 23) (hv : ¬ g_X10_isFine (nI k) a b c = 0) : ¬ g_X9_fits (askA k) a = 0 ∧ ¬ g_X9_fits (askB k) b = 0 ∧ ¬ g_X9_fits (askC k) c = 0 := by
  rw [← fine_eq hk] at hv
  refine ⟨fun q => hv (by rw [if_pos q]), fun q => hv ?_, fun q => hv ?_⟩
  · by_cases z : g_X9_fits (askA k) a = 0
    · rw [if_pos z]
    · rw [if_neg z, if_pos q]
  · by_cases z : g_X9_fits (askA k) a = 0
    · rw [if_pos z]
    · rw [if_neg z, if_pos q]
      by_cases z2 : g_X9_fits (askB k) b = 0
      · rw [if_pos z2]
      · rw [if_neg z2]
theorem reg_of {x : Int32} (h : ¬ g_X9_fits 1 x = 0) : ∃ p, p < 8 ∧ x = nI p := by
  rw [ft1] at h
  obtain ⟨p, hp, h1, h2⟩ := in_nat (v := x) h (by decide)
  have e1 : (7 : Int32).toInt = 7 := rfl
  exact ⟨p, by omega, hp⟩
set_option maxHeartbeats 1000000 in
theorem m_does {F o k d ee base : Nat} {a b c : Int32} {u : rg_U} {m : Row} (hk : k < 23) (hv : ¬ g_X10_isFine (nI k) a b c = 0) (ho : (12 : Nat) ≠ o) (hd : m 121 = nI d) (hd8 : d ≤ 8) (hen : (k = 19 ∨ k = 20) → base + ee < 4000) : g_X10_does F o 134 (nI k) a b c (nI ee) (nI base) (sT u o m 0 (-1) (-1)) = some (sTp u o (mdo m k a b c (u.2.1 12 (base + ee)) (nI ee))) := by
  obtain ⟨fa, fb, fc⟩ := fine_abc hk hv
  unfold g_X10_does
  match k, hk, fa, fb, fc, hen with
  | 0, _, fa, fb, fc, hen =>
    rw [if_pos (show nI 0 = 0 by decide), ck_t (by decide), lt1_i, sA_sT]
    rfl
  | 1, _, fa, fb, fc, hen =>
    obtain ⟨p, hp, rfl⟩ := reg_of (x := a) fa
    rw [if_neg (show ¬ nI 1 = 0 by decide), if_pos (show nI 1 = 1 by decide), m_gives (by omega), ob_i]
    show _ = some (sTp u o (mgiv m (tn (nI p)) 2 b))
    rw [tnn (by omega)]
    rfl
  | 2, _, fa, fb, fc, hen =>
    obtain ⟨p, hp, rfl⟩ := reg_of (x := a) fa
    rw [if_neg (show ¬ nI 2 = 0 by decide), if_neg (show ¬ nI 2 = 1 by decide), if_pos (show nI 2 = 2 by decide), m_gives (by omega), ob_i]
    show _ = some (sTp u o (mgiv m (tn (nI p)) 1 b))
    rw [tnn (by omega)]
    rfl
  | 3, _, fa, fb, fc, hen =>
    obtain ⟨p, hp, rfl⟩ := reg_of (x := a) fa
    obtain ⟨q, hq, rfl⟩ := reg_of (x := b) fb
    rw [if_neg (show ¬ nI 3 = 0 by decide), if_neg (show ¬ nI 3 = 1 by decide), if_neg (show ¬ nI 3 = 2 by decide), if_pos (show nI 3 = 3 by decide), c0, c40, ck_t (inb_nI (by omega) (by decide)), ck_t (inb_nI (by omega) (by decide)), rA_sT, rA_sT, tnn (by omega), tnn (by omega), m_gives (by omega), ob_i]
    show _ = some (sTp u o (mgiv m (tn (nI p)) (m (tn (nI q))) (m (40 + tn (nI q)))))
    rw [tnn (by omega), tnn (by omega)]
    rfl
  | 4, _, fa, fb, fc, hen =>
    obtain ⟨p, hp, rfl⟩ := reg_of (x := a) fa
    obtain ⟨q, hq, rfl⟩ := reg_of (x := b) fb
    obtain ⟨r, hr, rfl⟩ := reg_of (x := c) fc
    rw [if_neg (show ¬ nI 4 = 0 by decide), if_neg (show ¬ nI 4 = 1 by decide), if_neg (show ¬ nI 4 = 2 by decide), if_neg (show ¬ nI 4 = 3 by decide), if_neg (show ¬ nI 4 = 10 by decide), if_neg (show ¬ nI 4 = 11 by decide), if_neg (show ¬ nI 4 = 12 by decide), if_neg (show ¬ nI 4 = 13 by decide), if_neg (show ¬ nI 4 = 14 by decide), if_neg (show ¬ nI 4 = 15 by decide), if_neg (show ¬ nI 4 = 16 by decide), if_neg (show ¬ nI 4 = 17 by decide), if_neg (show ¬ nI 4 = 18 by decide), if_neg (show ¬ nI 4 = 19 by decide), if_neg (show ¬ nI 4 = 20 by decide), if_neg (show ¬ nI 4 = 21 by decide), if_neg (show ¬ nI 4 = 22 by decide)]
    unfold g_X10_does_j406
    rw [m_reckons (by omega) (by omega) (by omega) (by omega), ob_i]
    show _ = some (sTp u o (mreck m 4 (tn (nI p)) (tn (nI q)) (tn (nI r))))
    rw [tnn (by omega), tnn (by omega), tnn (by omega)]
  | 5, _, fa, fb, fc, hen =>
    obtain ⟨p, hp, rfl⟩ := reg_of (x := a) fa
    obtain ⟨q, hq, rfl⟩ := reg_of (x := b) fb
    obtain ⟨r, hr, rfl⟩ := reg_of (x := c) fc
    rw [if_neg (show ¬ nI 5 = 0 by decide), if_neg (show ¬ nI 5 = 1 by decide), if_neg (show ¬ nI 5 = 2 by decide), if_neg (show ¬ nI 5 = 3 by decide), if_neg (show ¬ nI 5 = 10 by decide), if_neg (show ¬ nI 5 = 11 by decide), if_neg (show ¬ nI 5 = 12 by decide), if_neg (show ¬ nI 5 = 13 by decide), if_neg (show ¬ nI 5 = 14 by decide), if_neg (show ¬ nI 5 = 15 by decide), if_neg (show ¬ nI 5 = 16 by decide), if_neg (show ¬ nI 5 = 17 by decide), if_neg (show ¬ nI 5 = 18 by decide), if_neg (show ¬ nI 5 = 19 by decide), if_neg (show ¬ nI 5 = 20 by decide), if_neg (show ¬ nI 5 = 21 by decide), if_neg (show ¬ nI 5 = 22 by decide)]
    unfold g_X10_does_j406
    rw [m_reckons (by omega) (by omega) (by omega) (by omega), ob_i]
    show _ = some (sTp u o (mreck m 5 (tn (nI p)) (tn (nI q)) (tn (nI r))))
    rw [tnn (by omega), tnn (by omega), tnn (by omega)]
  | 6, _, fa, fb, fc, hen =>
    obtain ⟨p, hp, rfl⟩ := reg_of (x := a) fa
    obtain ⟨q, hq, rfl⟩ := reg_of (x := b) fb
    obtain ⟨r, hr, rfl⟩ := reg_of (x := c) fc
    rw [if_neg (show ¬ nI 6 = 0 by decide), if_neg (show ¬ nI 6 = 1 by decide), if_neg (show ¬ nI 6 = 2 by decide), if_neg (show ¬ nI 6 = 3 by decide), if_neg (show ¬ nI 6 = 10 by decide), if_neg (show ¬ nI 6 = 11 by decide), if_neg (show ¬ nI 6 = 12 by decide), if_neg (show ¬ nI 6 = 13 by decide), if_neg (show ¬ nI 6 = 14 by decide), if_neg (show ¬ nI 6 = 15 by decide), if_neg (show ¬ nI 6 = 16 by decide), if_neg (show ¬ nI 6 = 17 by decide), if_neg (show ¬ nI 6 = 18 by decide), if_neg (show ¬ nI 6 = 19 by decide), if_neg (show ¬ nI 6 = 20 by decide), if_neg (show ¬ nI 6 = 21 by decide), if_neg (show ¬ nI 6 = 22 by decide)]
    unfold g_X10_does_j406
    rw [m_reckons (by omega) (by omega) (by omega) (by omega), ob_i]
    show _ = some (sTp u o (mreck m 6 (tn (nI p)) (tn (nI q)) (tn (nI r))))
    rw [tnn (by omega), tnn (by omega), tnn (by omega)]
  | 7, _, fa, fb, fc, hen =>
    obtain ⟨p, hp, rfl⟩ := reg_of (x := a) fa
    obtain ⟨q, hq, rfl⟩ := reg_of (x := b) fb
    obtain ⟨r, hr, rfl⟩ := reg_of (x := c) fc
    rw [if_neg (show ¬ nI 7 = 0 by decide), if_neg (show ¬ nI 7 = 1 by decide), if_neg (show ¬ nI 7 = 2 by decide), if_neg (show ¬ nI 7 = 3 by decide), if_neg (show ¬ nI 7 = 10 by decide), if_neg (show ¬ nI 7 = 11 by decide), if_neg (show ¬ nI 7 = 12 by decide), if_neg (show ¬ nI 7 = 13 by decide), if_neg (show ¬ nI 7 = 14 by decide), if_neg (show ¬ nI 7 = 15 by decide), if_neg (show ¬ nI 7 = 16 by decide), if_neg (show ¬ nI 7 = 17 by decide), if_neg (show ¬ nI 7 = 18 by decide), if_neg (show ¬ nI 7 = 19 by decide), if_neg (show ¬ nI 7 = 20 by decide), if_neg (show ¬ nI 7 = 21 by decide), if_neg (show ¬ nI 7 = 22 by decide)]
    unfold g_X10_does_j406
    rw [m_reckons (by omega) (by omega) (by omega) (by omega), ob_i]
    show _ = some (sTp u o (mreck m 7 (tn (nI p)) (tn (nI q)) (tn (nI r))))
    rw [tnn (by omega), tnn (by omega), tnn (by omega)]
  | 8, _, fa, fb, fc, hen =>
    obtain ⟨p, hp, rfl⟩ := reg_of (x := a) fa
    obtain ⟨q, hq, rfl⟩ := reg_of (x := b) fb
    obtain ⟨r, hr, rfl⟩ := reg_of (x := c) fc
    rw [if_neg (show ¬ nI 8 = 0 by decide), if_neg (show ¬ nI 8 = 1 by decide), if_neg (show ¬ nI 8 = 2 by decide), if_neg (show ¬ nI 8 = 3 by decide), if_neg (show ¬ nI 8 = 10 by decide), if_neg (show ¬ nI 8 = 11 by decide), if_neg (show ¬ nI 8 = 12 by decide), if_neg (show ¬ nI 8 = 13 by decide), if_neg (show ¬ nI 8 = 14 by decide), if_neg (show ¬ nI 8 = 15 by decide), if_neg (show ¬ nI 8 = 16 by decide), if_neg (show ¬ nI 8 = 17 by decide), if_neg (show ¬ nI 8 = 18 by decide), if_neg (show ¬ nI 8 = 19 by decide), if_neg (show ¬ nI 8 = 20 by decide), if_neg (show ¬ nI 8 = 21 by decide), if_neg (show ¬ nI 8 = 22 by decide)]
    unfold g_X10_does_j406
    rw [m_reckons (by omega) (by omega) (by omega) (by omega), ob_i]
    show _ = some (sTp u o (mreck m 8 (tn (nI p)) (tn (nI q)) (tn (nI r))))
    rw [tnn (by omega), tnn (by omega), tnn (by omega)]
  | 9, _, fa, fb, fc, hen =>
    obtain ⟨p, hp, rfl⟩ := reg_of (x := a) fa
    obtain ⟨q, hq, rfl⟩ := reg_of (x := b) fb
    obtain ⟨r, hr, rfl⟩ := reg_of (x := c) fc
    rw [if_neg (show ¬ nI 9 = 0 by decide), if_neg (show ¬ nI 9 = 1 by decide), if_neg (show ¬ nI 9 = 2 by decide), if_neg (show ¬ nI 9 = 3 by decide), if_neg (show ¬ nI 9 = 10 by decide), if_neg (show ¬ nI 9 = 11 by decide), if_neg (show ¬ nI 9 = 12 by decide), if_neg (show ¬ nI 9 = 13 by decide), if_neg (show ¬ nI 9 = 14 by decide), if_neg (show ¬ nI 9 = 15 by decide), if_neg (show ¬ nI 9 = 16 by decide), if_neg (show ¬ nI 9 = 17 by decide), if_neg (show ¬ nI 9 = 18 by decide), if_neg (show ¬ nI 9 = 19 by decide), if_neg (show ¬ nI 9 = 20 by decide), if_neg (show ¬ nI 9 = 21 by decide), if_neg (show ¬ nI 9 = 22 by decide)]
    unfold g_X10_does_j406
    rw [m_reckons (by omega) (by omega) (by omega) (by omega), ob_i]
    show _ = some (sTp u o (mreck m 9 (tn (nI p)) (tn (nI q)) (tn (nI r))))
    rw [tnn (by omega), tnn (by omega), tnn (by omega)]
  | 10, _, fa, fb, fc, hen =>
    obtain ⟨p, hp, rfl⟩ := reg_of (x := a) fa
    obtain ⟨q, hq, rfl⟩ := reg_of (x := b) fb
    obtain ⟨r, hr, rfl⟩ := reg_of (x := c) fc
    rw [if_neg (show ¬ nI 10 = 0 by decide), if_neg (show ¬ nI 10 = 1 by decide), if_neg (show ¬ nI 10 = 2 by decide), if_neg (show ¬ nI 10 = 3 by decide), if_pos (show nI 10 = 10 by decide)]
    simp only [c0, c40, ck_t (inb_nI (show q < 134 by omega) (by decide)), ck_t (inb_nI (show r < 134 by omega) (by decide)), ck_t (inb_nI (show 40 + q < 134 by omega) (by decide)), ck_t (inb_nI (show 40 + r < 134 by omega) (by decide)), rA_sT, tnn (show q < 2 ^ 31 by omega), tnn (show r < 2 ^ 31 by omega), tnn (show 40 + q < 2 ^ 31 by omega), tnn (show 40 + r < 2 ^ 31 by omega)]
    unfold g_X10_does_j203 g_X10_does_j204
    simp only [m_gives (show p < 40 by omega), ob_i]
    show _ = some (sTp u o (mgiv m (tn (nI p)) 1 (if m (tn (nI q)) = m (tn (nI r)) ∧ m (40 + tn (nI q)) = m (40 + tn (nI r)) then 1 else 0)))
    rw [tnn (by omega), tnn (by omega), tnn (by omega)]
    by_cases h1 : m q = m r
    · by_cases h2 : m (40 + q) = m (40 + r)
      · rw [if_pos h1, if_pos h2, if_pos ⟨h1, h2⟩]; rfl
      · rw [if_pos h1, if_neg h2, if_neg (fun z => h2 z.2)]; rfl
    · rw [if_neg h1, if_neg (fun z => h1 z.1)]; rfl
  | 11, _, fa, fb, fc, hen =>
    obtain ⟨p, hp, rfl⟩ := reg_of (x := a) fa
    obtain ⟨q, hq, rfl⟩ := reg_of (x := b) fb
    rw [if_neg (show ¬ nI 11 = 0 by decide), if_neg (show ¬ nI 11 = 1 by decide), if_neg (show ¬ nI 11 = 2 by decide), if_neg (show ¬ nI 11 = 3 by decide), if_neg (show ¬ nI 11 = 10 by decide), if_pos (show nI 11 = 11 by decide), m_isOf (by omega), ob_i, m_traps, ob_i, c40, ck_t (inb_nI (by omega) (by decide)), rA_sT, tnn (by omega), m_gives (by omega), ob_i]
    show _ = some (sTp u o (if m (tn (nI q)) = 1 then mgiv m (tn (nI p)) 1 (1 - m (40 + tn (nI q))) else mtrp m 1))
    rw [tnn (by omega), tnn (by omega)]
    by_cases h1 : m q = 1
    · rw [if_pos h1, if_neg one_n0, if_pos h1]; rfl
    · rw [if_neg h1, if_pos rfl, if_neg h1]; rfl
  | 12, _, fa, fb, fc, hen =>
    obtain ⟨p, hp, rfl⟩ := reg_of (x := a) fa
    obtain ⟨q, hq, rfl⟩ := reg_of (x := b) fb
    obtain ⟨r, hr, rfl⟩ := reg_of (x := c) fc
    rw [if_neg (show ¬ nI 12 = 0 by decide), if_neg (show ¬ nI 12 = 1 by decide), if_neg (show ¬ nI 12 = 2 by decide), if_neg (show ¬ nI 12 = 3 by decide), if_neg (show ¬ nI 12 = 10 by decide), if_neg (show ¬ nI 12 = 11 by decide), if_pos (show nI 12 = 12 by decide), m_isOf (by omega), ob_i, m_isOf (by omega), ob_i]
    unfold g_X10_does_j296
    rw [m_traps, ob_i]
    simp only [c40, ck_t (inb_nI (show 40 + q < 134 by omega) (by decide)), ck_t (inb_nI (show 40 + r < 134 by omega) (by decide)), rA_sT, tnn (show 40 + q < 2 ^ 31 by omega), tnn (show 40 + r < 2 ^ 31 by omega), m_gives (show p < 40 by omega), ob_i]
    show _ = some (sTp u o (if m (tn (nI q)) = 1 ∧ m (tn (nI r)) = 1 then mgiv m (tn (nI p)) 1 (m (40 + tn (nI q)) &&& m (40 + tn (nI r))) else mtrp m 1))
    rw [tnn (by omega), tnn (by omega), tnn (by omega)]
    by_cases h1 : m q = 1
    · rw [if_pos h1, if_neg one_n0]
      by_cases h2 : m r = 1
      · rw [if_pos h2, if_neg one_n0, if_pos ⟨h1, h2⟩]; rfl
      · rw [if_neg h2, if_pos rfl, if_neg (fun z => h2 z.2)]; rfl
    · rw [if_neg h1, if_pos rfl, if_neg (fun z => h1 z.1)]; rfl
  | 13, _, fa, fb, fc, hen =>
    obtain ⟨p, hp, rfl⟩ := reg_of (x := a) fa
    obtain ⟨q, hq, rfl⟩ := reg_of (x := b) fb
    rw [if_neg (show ¬ nI 13 = 0 by decide), if_neg (show ¬ nI 13 = 1 by decide), if_neg (show ¬ nI 13 = 2 by decide), if_neg (show ¬ nI 13 = 3 by decide), if_neg (show ¬ nI 13 = 10 by decide), if_neg (show ¬ nI 13 = 11 by decide), if_neg (show ¬ nI 13 = 12 by decide), if_pos (show nI 13 = 13 by decide)]
    unfold g_X10_does_j305
    rw [m_cells (by omega) (by omega) (by omega), ob_i]
    show _ = some (sTp u o (mcel m (tn (nI q)) (fun z => mgiv m (tn (nI p)) (m z) (m (40 + z)))))
    rw [tnn (show p < 2 ^ 31 by omega), tnn (show q < 2 ^ 31 by omega)]
    rfl
  | 14, _, fa, fb, fc, hen =>
    obtain ⟨p, hp, rfl⟩ := reg_of (x := a) fa
    obtain ⟨q, hq, rfl⟩ := reg_of (x := b) fb
    rw [if_neg (show ¬ nI 14 = 0 by decide), if_neg (show ¬ nI 14 = 1 by decide), if_neg (show ¬ nI 14 = 2 by decide), if_neg (show ¬ nI 14 = 3 by decide), if_neg (show ¬ nI 14 = 10 by decide), if_neg (show ¬ nI 14 = 11 by decide), if_neg (show ¬ nI 14 = 12 by decide), if_neg (show ¬ nI 14 = 13 by decide), if_pos (show nI 14 = 14 by decide)]
    unfold g_X10_does_j305
    rw [m_cells (by omega) (by omega) (by omega), ob_i]
    show _ = some (sTp u o (mcel m (tn (nI p)) (fun z => mgiv m z (m (tn (nI q))) (m (40 + tn (nI q))))))
    rw [tnn (show p < 2 ^ 31 by omega), tnn (show q < 2 ^ 31 by omega)]
    rfl
  | 15, _, fa, fb, fc, hen =>
    rw [if_neg (show ¬ nI 15 = 0 by decide), if_neg (show ¬ nI 15 = 1 by decide), if_neg (show ¬ nI 15 = 2 by decide), if_neg (show ¬ nI 15 = 3 by decide), if_neg (show ¬ nI 15 = 10 by decide), if_neg (show ¬ nI 15 = 11 by decide), if_neg (show ¬ nI 15 = 12 by decide), if_neg (show ¬ nI 15 = 13 by decide), if_neg (show ¬ nI 15 = 14 by decide), if_pos (show nI 15 = 15 by decide)]
    unfold g_X10_does_j317
    rw [m_goes (by omega) (fun z => absurd z (by decide)) hd hd8 c (u.2.1 12 (base + ee)) (nI ee), ob_i]
  | 16, _, fa, fb, fc, hen =>
    rw [if_neg (show ¬ nI 16 = 0 by decide), if_neg (show ¬ nI 16 = 1 by decide), if_neg (show ¬ nI 16 = 2 by decide), if_neg (show ¬ nI 16 = 3 by decide), if_neg (show ¬ nI 16 = 10 by decide), if_neg (show ¬ nI 16 = 11 by decide), if_neg (show ¬ nI 16 = 12 by decide), if_neg (show ¬ nI 16 = 13 by decide), if_neg (show ¬ nI 16 = 14 by decide), if_neg (show ¬ nI 16 = 15 by decide), if_pos (show nI 16 = 16 by decide)]
    unfold g_X10_does_j317
    rw [m_goes (by omega) (fun _ => ?_) hd hd8 c (u.2.1 12 (base + ee)) (nI ee), ob_i]
    obtain ⟨p, hp, e1⟩ := reg_of (x := a) fa
    exact ⟨p, by omega, e1⟩
  | 17, _, fa, fb, fc, hen =>
    rw [if_neg (show ¬ nI 17 = 0 by decide), if_neg (show ¬ nI 17 = 1 by decide), if_neg (show ¬ nI 17 = 2 by decide), if_neg (show ¬ nI 17 = 3 by decide), if_neg (show ¬ nI 17 = 10 by decide), if_neg (show ¬ nI 17 = 11 by decide), if_neg (show ¬ nI 17 = 12 by decide), if_neg (show ¬ nI 17 = 13 by decide), if_neg (show ¬ nI 17 = 14 by decide), if_neg (show ¬ nI 17 = 15 by decide), if_neg (show ¬ nI 17 = 16 by decide), if_pos (show nI 17 = 17 by decide)]
    unfold g_X10_does_j317
    rw [m_goes (by omega) (fun z => absurd z (by decide)) hd hd8 c (u.2.1 12 (base + ee)) (nI ee), ob_i]
  | 18, _, fa, fb, fc, hen =>
    rw [if_neg (show ¬ nI 18 = 0 by decide), if_neg (show ¬ nI 18 = 1 by decide), if_neg (show ¬ nI 18 = 2 by decide), if_neg (show ¬ nI 18 = 3 by decide), if_neg (show ¬ nI 18 = 10 by decide), if_neg (show ¬ nI 18 = 11 by decide), if_neg (show ¬ nI 18 = 12 by decide), if_neg (show ¬ nI 18 = 13 by decide), if_neg (show ¬ nI 18 = 14 by decide), if_neg (show ¬ nI 18 = 15 by decide), if_neg (show ¬ nI 18 = 16 by decide), if_neg (show ¬ nI 18 = 17 by decide), if_pos (show nI 18 = 18 by decide)]
    unfold g_X10_does_j317
    rw [m_goes (by omega) (fun z => absurd z (by decide)) hd hd8 c (u.2.1 12 (base + ee)) (nI ee), ob_i]
  | 19, _, fa, fb, fc, hen =>
    obtain ⟨p, hp, rfl⟩ := reg_of (x := a) fa
    have hen := hen (by omega)
    rw [if_neg (show ¬ nI 19 = 0 by decide), if_neg (show ¬ nI 19 = 1 by decide), if_neg (show ¬ nI 19 = 2 by decide), if_neg (show ¬ nI 19 = 3 by decide), if_neg (show ¬ nI 19 = 10 by decide), if_neg (show ¬ nI 19 = 11 by decide), if_neg (show ¬ nI 19 = 12 by decide), if_neg (show ¬ nI 19 = 13 by decide), if_neg (show ¬ nI 19 = 14 by decide), if_neg (show ¬ nI 19 = 15 by decide), if_neg (show ¬ nI 19 = 16 by decide), if_neg (show ¬ nI 19 = 17 by decide), if_neg (show ¬ nI 19 = 18 by decide), if_pos (show nI 19 = 19 by decide)]
    unfold g_X10_does_j329
    rw [lt1_i, sF_38, nI_add, ck_t (inb_nI hen (by decide)), rA_sTn ho, tnn (by omega), m_gives (by omega), ob_i]
    show _ = some (sT u o (mput m (tn (nI p)) 2 (u.2.1 12 (base + ee))) 0 (nI ee) (nI p))
    rw [tnn (by omega)]
  | 20, _, fa, fb, fc, hen =>
    obtain ⟨p, hp, rfl⟩ := reg_of (x := a) fa
    have hen := hen (by omega)
    rw [if_neg (show ¬ nI 20 = 0 by decide), if_neg (show ¬ nI 20 = 1 by decide), if_neg (show ¬ nI 20 = 2 by decide), if_neg (show ¬ nI 20 = 3 by decide), if_neg (show ¬ nI 20 = 10 by decide), if_neg (show ¬ nI 20 = 11 by decide), if_neg (show ¬ nI 20 = 12 by decide), if_neg (show ¬ nI 20 = 13 by decide), if_neg (show ¬ nI 20 = 14 by decide), if_neg (show ¬ nI 20 = 15 by decide), if_neg (show ¬ nI 20 = 16 by decide), if_neg (show ¬ nI 20 = 17 by decide), if_neg (show ¬ nI 20 = 18 by decide), if_neg (show ¬ nI 20 = 19 by decide), if_pos (show nI 20 = 20 by decide)]
    unfold g_X10_does_j329
    rw [lt1_i, sF_38, nI_add, ck_t (inb_nI hen (by decide)), rA_sTn ho, tnn (by omega), m_gives (by omega), ob_i]
    show _ = some (sT u o (mput m (tn (nI p)) 2 (u.2.1 12 (base + ee))) 0 (nI ee) (nI p))
    rw [tnn (by omega)]
  | 21, _, fa, fb, fc, hen =>
    obtain ⟨p, hp, rfl⟩ := reg_of (x := a) fa
    rw [if_neg (show ¬ nI 21 = 0 by decide), if_neg (show ¬ nI 21 = 1 by decide), if_neg (show ¬ nI 21 = 2 by decide), if_neg (show ¬ nI 21 = 3 by decide), if_neg (show ¬ nI 21 = 10 by decide), if_neg (show ¬ nI 21 = 11 by decide), if_neg (show ¬ nI 21 = 12 by decide), if_neg (show ¬ nI 21 = 13 by decide), if_neg (show ¬ nI 21 = 14 by decide), if_neg (show ¬ nI 21 = 15 by decide), if_neg (show ¬ nI 21 = 16 by decide), if_neg (show ¬ nI 21 = 17 by decide), if_neg (show ¬ nI 21 = 18 by decide), if_neg (show ¬ nI 21 = 19 by decide), if_neg (show ¬ nI 21 = 20 by decide), if_pos (show nI 21 = 21 by decide), ck_t (by decide), ck_t (by decide)]
    simp only [lt1_i, c0, c40, ck_t (inb_nI (show p < 134 by omega) (by decide)), ck_t (inb_nI (show 40 + p < 134 by omega) (by decide)), ck_t (show inb 131 134 by decide), rA_sT, sA_sT, show tn 130 = 130 from by decide, show tn 131 = 131 from by decide, tnn (show p < 2 ^ 31 by omega), tnn (show 40 + p < 2 ^ 31 by omega)]
    rw [pk_un (show (131 : Nat) ≠ 130 by decide), pk_un (show 40 + p ≠ 130 by omega), pk_un (show p ≠ 130 by omega)]
    show _ = some (sTp u o (upd (upd m 130 (m 130 + 1)) 131 (31 * m 131 + 3 * m (40 + tn (nI p)) + m (tn (nI p))), 0, -1, -1))
    rw [tnn (by omega)]
    rfl
  | 22, _, fa, fb, fc, hen =>
    obtain ⟨p, hp, rfl⟩ := reg_of (x := a) fa
    rw [if_neg (show ¬ nI 22 = 0 by decide), if_neg (show ¬ nI 22 = 1 by decide), if_neg (show ¬ nI 22 = 2 by decide), if_neg (show ¬ nI 22 = 3 by decide), if_neg (show ¬ nI 22 = 10 by decide), if_neg (show ¬ nI 22 = 11 by decide), if_neg (show ¬ nI 22 = 12 by decide), if_neg (show ¬ nI 22 = 13 by decide), if_neg (show ¬ nI 22 = 14 by decide), if_neg (show ¬ nI 22 = 15 by decide), if_neg (show ¬ nI 22 = 16 by decide), if_neg (show ¬ nI 22 = 17 by decide), if_neg (show ¬ nI 22 = 18 by decide), if_neg (show ¬ nI 22 = 19 by decide), if_neg (show ¬ nI 22 = 20 by decide), if_neg (show ¬ nI 22 = 21 by decide), if_pos (show nI 22 = 22 by decide), m_gives (by omega), ob_i]
    show _ = some (sTp u o (mgiv m (tn (nI p)) 0 0))
    rw [tnn (by omega)]
    rfl
  | k + 23, hk, _, _, _, _ => omega
/-- the program of a run: kinds, then a, b, c -/
abbrev Prg : Type := (Nat → Int32) × (Nat → Int32) × (Nat → Int32) × (Nat → Int32)
def kindOf (P : Prg) (x : Int32) : Int32 := if x < 64 then P.1 (tn x) else -1
def mstep (P : Prg) (m : Row) (num en : Int32) : MSt :=
  let z := if kindOf P (m 120) = -1 then mtrp (upd m 120 (imin 64 (m 120 + 1))) 5 else mdo (upd m 120 (imin 64 (m 120 + 1))) (tn (kindOf P (m 120))) (P.2.1 (tn (m 120))) (P.2.2.1 (tn (m 120))) (P.2.2.2 (tn (m 120))) num en
  (upd z.1 133 (z.1 133 + 1), z.2)
def okP (P : Prg) : Prop := ∀ k, k < 64 → ¬ g_X10_isFine (P.1 k) (P.2.1 k) (P.2.2.1 k) (P.2.2.2 k) = 0
/-- a row of numbers, 0 beyond N -/
def ct (N : Nat) (f : Nat → Int32) : Nat → Int32 := fun k => if k < N then f k else 0
theorem ct_lt {N k : Nat} {f : Nat → Int32} (h : k < N) : ct N f k = f k := if_pos h
theorem ct_c {N : Nat} {f g : Nat → Int32} (h : ∀ k, k < N → f k = g k) : ct N f = ct N g := by
  funext k
  unfold ct
  by_cases q : k < N
  · rw [if_pos q, if_pos q, h k q]
  · rw [if_neg q, if_neg q]
def Pm (u : rg_U) (r : Nat) : Prg := (ct 64 (fun k => u.2.1 6 (64 * r + k)), ct 64 (fun k => u.2.1 7 (64 * r + k)), ct 64 (fun k => u.2.1 8 (64 * r + k)), ct 64 (fun k => u.2.1 9 (64 * r + k)))
theorem Pm_0 {u : rg_U} {r k : Nat} (h : k < 64) : (Pm u r).1 k = u.2.1 6 (64 * r + k) := by
  show ct 64 (fun k => u.2.1 6 (64 * r + k)) k = _
  rw [ct_lt h]
theorem Pm_1 {u : rg_U} {r k : Nat} (h : k < 64) : (Pm u r).2.1 k = u.2.1 7 (64 * r + k) := by
  show ct 64 (fun k => u.2.1 7 (64 * r + k)) k = _
  rw [ct_lt h]
theorem Pm_2 {u : rg_U} {r k : Nat} (h : k < 64) : (Pm u r).2.2.1 k = u.2.1 8 (64 * r + k) := by
  show ct 64 (fun k => u.2.1 8 (64 * r + k)) k = _
  rw [ct_lt h]
theorem Pm_3 {u : rg_U} {r k : Nat} (h : k < 64) : (Pm u r).2.2.2 k = u.2.1 9 (64 * r + k) := by
  show ct 64 (fun k => u.2.1 9 (64 * r + k)) k = _
  rw [ct_lt h]
theorem fine_k {x a b c : Int32} (h : ¬ g_X10_isFine x a b c = 0) (h1 : ¬ x = -1) : ∃ k, k < 23 ∧ x = nI k := by
  by_cases h0 : x < 0
  · exact absurd (fine_out h1 (Or.inl h0)) h
  · by_cases h23 : (23 : Int32) ≤ x
    · exact absurd (fine_out h1 (Or.inr h23)) h
    · obtain ⟨k, hk, rfl⟩ := nI_of h0
      exact ⟨k, Nat.not_le.mp fun q => h23 (nI_le (a := 23) (b := k) q hk), rfl⟩
theorem m_kindAt {F r cn : Nat} {u : rg_U} (hr : r < 5) (hc : cn ≤ 64) : g_X10_kindAt F (nI r) (nI cn) u = some (kindOf (Pm u r) (nI cn)) := by
  unfold g_X10_kindAt kindOf
  by_cases h : nI cn < 64
  · have hc2 : cn < 64 := (nI_ltI (a := cn) (b := 64) (by omega) (by decide)).mp h
    rw [if_pos h, if_pos h, show (64 : Int32) * nI r = nI (64 * r) from pk_mul 64 r, nI_add, ck_t (inb_nI (by omega) (by decide)), rA_nI (by omega), tnn (by omega)]
    show _ = some (ct 64 (fun k => u.2.1 6 (64 * r + k)) cn)
    rw [ct_lt hc2]
  · rw [if_neg h, if_neg h]
theorem sTp_133 {u : rg_U} {o : Nat} {z : MSt} : sA (sTp u o z) o 133 (rA (sTp u o z) o 133 + 1) = sTp u o (upd z.1 133 (z.1 133 + 1), z.2) := by
  unfold sTp
  rw [rA_sT, sA_sT]
  rfl
theorem m_steps {F o r cn d ee : Nat} {u : rg_U} (hr : r < 5) (ho : 12 < o) (hP : okP (Pm u r)) (hc : u.2.1 o 120 = nI cn) (hcn : cn ≤ 64) (hd : u.2.1 o 121 = nI d) (hd8 : d ≤ 8) (hen : (kindOf (Pm u r) (nI cn) = 19 ∨ kindOf (Pm u r) (nI cn) = 20) → 800 * r + ee < 4000) : g_X10_steps F o 134 (nI r) (nI ee) u = some (sTp u o (mstep (Pm u r) (u.2.1 o) (u.2.1 12 (800 * r + ee)) (nI ee))) := by
  unfold g_X10_steps
  have e120 : rA u o 120 = nI cn := hc
  rw [ck_t (by decide), e120, m_kindAt hr hcn, ob_i]
  simp only [lt1_i]
  rw [ck_t (by decide), sT_0 (o := o), sA_sT]
  unfold mstep
  rw [hc]
  dsimp only
  rw [show tn 120 = 120 from by decide]
  by_cases h : kindOf (Pm u r) (nI cn) = -1
  · rw [if_pos h, if_pos h, m_traps, ob_i, ck_t (by decide), ck_t (by decide)]
    exact congrArg some (sTp_133 (u := u) (o := o) (z := mtrp (upd (u.2.1 o) 120 (imin 64 (nI cn + 1))) 5))
  · rw [if_neg h, if_neg h]
    have hc64 : cn < 64 := by
      rcases Nat.lt_or_ge cn 64 with q | q
      · exact q
      · exfalso
        apply h
        have : cn = 64 := by omega
        subst this
        rfl
    have hk : kindOf (Pm u r) (nI cn) = (Pm u r).1 cn := by
      unfold kindOf
      rw [if_pos (show nI cn < (64 : Int32) from nI_lt (a := cn) (b := 64) hc64 (by decide)), tnn (by omega)]
    obtain ⟨k, hk23, ek⟩ := fine_k (hP cn hc64) (by rw [← hk]; exact h)
    rw [show (64 : Int32) * nI r = nI (64 * r) from pk_mul 64 r, nI_add, ck_t (inb_nI (by omega) (by decide)), ck_t (inb_nI (by omega) (by decide)), ck_t (inb_nI (by omega) (by decide)), rA_sTn (by omega), rA_sTn (by omega), rA_sTn (by omega), tnn (by omega), hk, ek, show (800 : Int32) * nI r = nI (800 * r) from pk_mul 800 r]
    have hv := hP cn hc64
    rw [ek] at hv
    have key : g_X10_does F o 134 (nI k) ((Pm u r).2.1 cn) ((Pm u r).2.2.1 cn) ((Pm u r).2.2.2 cn) (nI ee) (nI (800 * r)) (sT u o (upd (u.2.1 o) 120 (imin 64 (nI cn + 1))) 0 (-1) (-1)) = some (sTp u o (mdo (upd (u.2.1 o) 120 (imin 64 (nI cn + 1))) k ((Pm u r).2.1 cn) ((Pm u r).2.2.1 cn) ((Pm u r).2.2.2 cn) (u.2.1 12 (800 * r + ee)) (nI ee))) := m_does (a := (Pm u r).2.1 cn) (b := (Pm u r).2.2.1 cn) (c := (Pm u r).2.2.2 cn) hk23 hv (by omega) (d := d) (by rw [pk_un (by decide)]; exact hd) hd8 (fun q => hen (by
      rw [hk, ek]
      rcases q with q | q
      · subst q; exact Or.inl rfl
      · subst q; exact Or.inr rfl))
    have p1 : (Pm u r).2.1 cn = u.2.1 7 (64 * r + cn) := Pm_1 hc64
    have p2 : (Pm u r).2.2.1 cn = u.2.1 8 (64 * r + cn) := Pm_2 hc64
    have p3 : (Pm u r).2.2.2 cn = u.2.1 9 (64 * r + cn) := Pm_3 hc64
    rw [← p1, ← p2, ← p3, key, ob_i, ck_t (by decide), ck_t (by decide), tnn (show k < 2 ^ 31 by omega), tnn (show cn < 2 ^ 31 by omega)]
    exact congrArg some sTp_133
end W_9
section W_10
-- 93.replay
/-! REPLAY: what the reference's sim comes to, as a function of program and log -/
/-- a log: times, sorts (0 INPUT, 1 DRAW, 2 POKE), numbers, places, values -/
abbrev Lg : Type := (Nat → Int32) × (Nat → Int32) × (Nat → Int32) × (Nat → Int32) × (Nat → Int32)
def Lm (u : rg_U) (r : Nat) : Lg := (ct 800 (fun k => u.2.1 10 (800 * r + k)), ct 800 (fun k => u.2.1 11 (800 * r + k)), ct 800 (fun k => u.2.1 12 (800 * r + k)), ct 800 (fun k => u.2.1 13 (800 * r + k)), ct 800 (fun k => u.2.1 14 (800 * r + k)))
theorem Lm_0 {u : rg_U} {r k : Nat} (h : k < 800) : (Lm u r).1 k = u.2.1 10 (800 * r + k) := by
  show ct 800 (fun k => u.2.1 10 (800 * r + k)) k = _
  rw [ct_lt h]
theorem Lm_1 {u : rg_U} {r k : Nat} (h : k < 800) : (Lm u r).2.1 k = u.2.1 11 (800 * r + k) := by
  show ct 800 (fun k => u.2.1 11 (800 * r + k)) k = _
  rw [ct_lt h]
theorem Lm_2 {u : rg_U} {r k : Nat} (h : k < 800) : (Lm u r).2.2.1 k = u.2.1 12 (800 * r + k) := by
  show ct 800 (fun k => u.2.1 12 (800 * r + k)) k = _
  rw [ct_lt h]
theorem Lm_3 {u : rg_U} {r k : Nat} (h : k < 800) : (Lm u r).2.2.2.1 k = u.2.1 13 (800 * r + k) := by
  show ct 800 (fun k => u.2.1 13 (800 * r + k)) k = _
  rw [ct_lt h]
theorem Lm_4 {u : rg_U} {r k : Nat} (h : k < 800) : (Lm u r).2.2.2.2 k = u.2.1 14 (800 * r + k) := by
  show ct 800 (fun k => u.2.1 14 (800 * r + k)) k = _
  rw [ct_lt h]
def spkf (L : Lg) (n : Nat) : Nat → Row → Nat → Row × Nat
  | 0, m, l => (m, l)
  | f + 1, m, l => if l < n ∧ L.2.1 l = 2 ∧ L.1 l = m 133 then spkf L n f (mput m (tn (L.2.2.2.1 l)) (L.2.2.2.2 l) (L.2.2.1 l)) (l + 1) else (m, l)
def spk (L : Lg) (n : Nat) (m : Row) (l : Nat) : Row × Nat := spkf L n (n - l) m l
theorem spk_yes {L : Lg} {n : Nat} {m : Row} {l : Nat} (h : l < n ∧ L.2.1 l = 2 ∧ L.1 l = m 133) : spk L n m l = spk L n (mput m (tn (L.2.2.2.1 l)) (L.2.2.2.2 l) (L.2.2.1 l)) (l + 1) := by
  unfold spk
  rw [show n - l = (n - (l + 1)) + 1 by omega]
  show (if _ then _ else _) = _
  rw [if_pos h]
theorem spk_no {L : Lg} {n : Nat} {m : Row} {l : Nat} (h : ¬ (l < n ∧ L.2.1 l = 2 ∧ L.1 l = m 133)) : spk L n m l = (m, l) := by
  unfold spk
  cases hf : n - l with
  | zero => rfl
  | succ f =>
    show (if _ then _ else _) = _
    rw [if_neg h]
theorem spk_le {L : Lg} {n : Nat} : ∀ (f : Nat) (m : Row) (l : Nat), n - l = f → l ≤ n → l ≤ (spk L n m l).2 ∧ (spk L n m l).2 ≤ n
  | f, m, l, hf, hl => by
    by_cases h : l < n ∧ L.2.1 l = 2 ∧ L.1 l = m 133
    · rw [spk_yes h]
      match f, hf with
      | 0, hf => omega
      | f + 1, hf =>
        have := spk_le (L := L) (n := n) f (mput m (tn (L.2.2.2.1 l)) (L.2.2.2.2 l) (L.2.2.1 l)) (l + 1) (by omega) (by omega)
        omega
    · rw [spk_no h]
      exact ⟨Nat.le_refl _, hl⟩
def zrow : Row := fun _ => 0
def nxt (P : Prg) (L : Lg) (n : Nat) (m : Row) (l : Nat) : Row × Nat := spk L n (mstep P m (L.2.2.1 l) (nI l)).1 (if (mstep P m (L.2.2.1 l) (nI l)).2.2.1 = -1 then l else l + 1)
def rp (P : Prg) (L : Lg) (n : Nat) : Nat → Row × Nat
  | 0 => spk L n zrow 0
  | t + 1 => nxt P L n (rp P L n t).1 (rp P L n t).2
/-! the fields and the row that go along -/
def sX (u : rg_U) (a b c sr sl : Int32) (m : Row) : rg_U := (upd (upd (upd (upd (upd u.1 37 a) 38 b) 39 c) 41 sr) 42 sl, va_up u.2.1 31 m, u.2.2)
theorem sX_A {u : rg_U} {a b c sr sl : Int32} {m : Row} : (sX u a b c sr sl m).2.1 31 = m := by
  show va_up u.2.1 31 m 31 = m
  exact pm_up_s
theorem sX_An {u : rg_U} {a b c sr sl : Int32} {m : Row} {j : Nat} (h : j ≠ 31) : (sX u a b c sr sl m).2.1 j = u.2.1 j := pm_up_n h
theorem sX_41 {u : rg_U} {a b c sr sl : Int32} {m : Row} : rF (sX u a b c sr sl m) 0 41 = sr := by
  show upd (upd (upd (upd (upd u.1 37 a) 38 b) 39 c) 41 sr) 42 sl 41 = sr
  rw [pk_un (by decide)]
  exact pk_us
theorem sX_42 {u : rg_U} {a b c sr sl : Int32} {m : Row} : rF (sX u a b c sr sl m) 0 42 = sl := by
  show upd (upd (upd (upd (upd u.1 37 a) 38 b) 39 c) 41 sr) 42 sl 42 = sl
  exact pk_us
theorem sX_n {u : rg_U} {a b c sr sl : Int32} {m : Row} {k : Nat} (h : k ≠ 37 ∧ k ≠ 38 ∧ k ≠ 39 ∧ k ≠ 41 ∧ k ≠ 42) : (sX u a b c sr sl m).1 k = u.1 k := by
  unfold sX
  dsimp only
  rw [pk_un h.2.2.2.2, pk_un h.2.2.2.1, pk_un h.2.2.1, pk_un h.2.1, pk_un h.1]
theorem sX_id {u : rg_U} : sX u (u.1 37) (u.1 38) (u.1 39) (u.1 41) (u.1 42) (u.2.1 31) = u := by
  unfold sX
  rw [va_same]
  have e : upd (upd (upd (upd (upd u.1 37 (u.1 37)) 38 (u.1 38)) 39 (u.1 39)) 41 (u.1 41)) 42 (u.1 42) = u.1 := by
    have h : ∀ k, upd u.1 k (u.1 k) = u.1 := fun k => by
      funext i
      unfold upd
      by_cases q : i = k
      · rw [if_pos q, q]
      · rw [if_neg q]
    rw [h, h, h, h, h]
  rw [e]
theorem sX_s42 {u : rg_U} {a b c sr sl v : Int32} {m : Row} : sF (sX u a b c sr sl m) 0 42 v = sX u a b c sr v m := by
  unfold sF rg_F sX
  dsimp only
  rw [show 100 * 0 + 42 = 42 from rfl, upd2]
theorem sX_s41 {u : rg_U} {a b c sr sl v : Int32} {m : Row} : sF (sX u a b c sr sl m) 0 41 v = sX u a b c v sl m := by
  unfold sF rg_F sX
  dsimp only
  rw [show 100 * 0 + 41 = 41 from rfl, upd_c (k := 42) (l := 41) (by decide), upd2]
theorem sX_row {u : rg_U} {a b c sr sl : Int32} {m m' : Row} : rw_ (sX u a b c sr sl m) 31 m' = sX u a b c sr sl m' := by
  unfold rw_ sX
  dsimp only
  rw [va_twice]
theorem sX_sT {u : rg_U} {a b c sr sl : Int32} {m : Row} {z : MSt} : sTp (sX u a b c sr sl m) 31 z = sX u z.2.1 z.2.2.1 z.2.2.2 sr sl z.1 := by
  unfold sTp sT rw_ fl3 sX
  dsimp only
  rw [va_twice]
  have e : upd (upd (upd (upd (upd (upd (upd (upd u.1 37 a) 38 b) 39 c) 41 sr) 42 sl) 37 z.2.1) 38 z.2.2.1) 39 z.2.2.2 = upd (upd (upd (upd (upd u.1 37 z.2.1) 38 z.2.2.1) 39 z.2.2.2) 41 sr) 42 sl := by
    funext k
    unfold upd
    by_cases h7 : k = 37
    · subst h7; simp
    by_cases h8 : k = 38
    · subst h8; simp
    by_cases h9 : k = 39
    · subst h9; simp
    simp only [h7, h8, h9, if_false]
  rw [e]
theorem m_puts2 {F o p : Nat} {s n : Int32} {u : rg_U} (hp : p < 40) : g_X10_puts F o 134 (nI p) s n u = some (rw_ u o (mput (u.2.1 o) p s n)) := by
  have h := m_puts (F := F) (o := o) (s := s) (n := n) (a := u.1 37) (b := u.1 38) (c := u.1 39) (u := u) (m := u.2.1 o) hp
  have e : ∀ m, sT u o m (u.1 37) (u.1 38) (u.1 39) = rw_ u o m := fun m => by
    unfold sT
    have : fl3 u (u.1 37) (u.1 38) (u.1 39) = u := by
      unfold fl3
      have h : ∀ k, upd u.1 k (u.1 k) = u.1 := fun k => by
        funext i
        unfold upd
        by_cases q : i = k
        · rw [if_pos q, q]
        · rw [if_neg q]
      rw [h, h, h]
    rw [this]
  rw [e, e, rw_id] at h
  exact h
/-- a log whose pokes go to places -/
def okL (L : Lg) (n : Nat) : Prop := ∀ k, k < n → L.2.1 k = 2 → ∃ p, p < 40 ∧ L.2.2.2.1 k = nI p
theorem m_simPokes {F r n : Nat} {u : rg_U} (hr : r < 5) (hn : u.2.1 15 r = nI n) (hn8 : n ≤ 800) (hL : okL (Lm u r) n) (hF : 800 < F) : ∀ (f l : Nat) (a b c : Int32) (m : Row), n - l = f → l ≤ n → ∀ G, f < G → lp (fun (s : rg_U) => g_X10_simPokes_l0 F s) G (sX u a b c (nI r) (nI l) m) = some (sX u a b c (nI r) (nI (spk (Lm u r) n m l).2) (spk (Lm u r) n m l).1)
  | f, l, a, b, c, m, hf, hl, G, hG => by
    match G, hG with
    | 0, hG => omega
    | G + 1, hG =>
    unfold lp
    have hb : g_X10_simPokes_l0 F (sX u a b c (nI r) (nI l) m) = if l < n ∧ (Lm u r).2.1 l = 2 ∧ (Lm u r).1 l = m 133 then some (.inl (sX u a b c (nI r) (nI (l + 1)) (mput m (tn ((Lm u r).2.2.2.1 l)) ((Lm u r).2.2.2.2 l) ((Lm u r).2.2.1 l)))) else some (.inr (sX u a b c (nI r) (nI l) m)) := by
      unfold g_X10_simPokes_l0
      rw [sX_41, sX_42, ck_t (inb_nI hr (by decide)), rA_nI (by omega), sX_An (by decide), hn]
      by_cases q0 : l < n
      · rw [if_neg (nI_ge q0 (by omega)), show (800 : Int32) * nI r = nI (800 * r) from pk_mul 800 r, nI_add, ck_t (inb_nI (by omega) (by decide)), ck_t (inb_nI (by omega) (by decide)), ck_t (inb_nI (by omega) (by decide)), ck_t (inb_nI (by omega) (by decide)), ck_t (inb_nI (by omega) (by decide))]
        simp only [rA_nI (show 800 * r + l < 2 ^ 31 by omega), sX_An (show (10 : Nat) ≠ 31 by decide), sX_An (show (11 : Nat) ≠ 31 by decide), sX_An (show (12 : Nat) ≠ 31 by decide), sX_An (show (13 : Nat) ≠ 31 by decide), sX_An (show (14 : Nat) ≠ 31 by decide)]
        rw [show rA (sX u a b c (nI r) (nI l) m) 31 133 = m 133 from congrFun sX_A _, ck_t (by decide)]
        have d0 : (Lm u r).1 l = u.2.1 10 (800 * r + l) := Lm_0 (by omega)
        have d1 : (Lm u r).2.1 l = u.2.1 11 (800 * r + l) := Lm_1 (by omega)
        have d2 : (Lm u r).2.2.1 l = u.2.1 12 (800 * r + l) := Lm_2 (by omega)
        have d3 : (Lm u r).2.2.2.1 l = u.2.1 13 (800 * r + l) := Lm_3 (by omega)
        have d4 : (Lm u r).2.2.2.2 l = u.2.1 14 (800 * r + l) := Lm_4 (by omega)
        rw [← d0, ← d1, ← d2, ← d3, ← d4]
        by_cases q1 : (Lm u r).2.1 l = 2
        · rw [if_pos q1]
          by_cases q2 : (Lm u r).1 l = m 133
          · rw [if_pos q2, if_pos (show l < n ∧ (Lm u r).2.1 l = 2 ∧ (Lm u r).1 l = m 133 from ⟨q0, q1, q2⟩)]
            obtain ⟨p, hp, ep⟩ := hL l q0 q1
            rw [ep, m_puts2 hp, ob_i, lt1_i, sX_A, sX_row, sX_42, nI_1, sX_s42, tnn (by omega)]
          · rw [if_neg q2, if_neg (fun z => q2 z.2.2)]
        · rw [if_neg q1, if_neg (fun z => q1 z.2.1)]
      · rw [if_pos (nI_le (by omega) (by omega)), if_neg (fun z => q0 z.1)]
    rw [hb]
    by_cases h : l < n ∧ (Lm u r).2.1 l = 2 ∧ (Lm u r).1 l = m 133
    · rw [if_pos h, spk_yes h]
      match f, hf with
      | 0, hf => omega
      | f + 1, hf => exact m_simPokes hr hn hn8 hL hF f (l + 1) a b c _ (by omega) (by omega) G (by omega)
    · rw [if_neg h, spk_no h]
end W_10
section W_11
-- 94.okr
/-! rows that can be, and that a step keeps them so -/
def okR (m : Row) : Prop := (∃ cn, cn ≤ 64 ∧ m 120 = nI cn) ∧ ∃ d, d ≤ 8 ∧ m 121 = nI d ∧ (∀ i, i < d → ∃ c, c ≤ 64 ∧ m (122 + i) = nI c) ∧ ∀ i, 134 ≤ i → m i = 0
theorem okR_hi {m m' : Row} (h : okR m) (he : ∀ i, 120 ≤ i → (i < 130 ∨ 134 ≤ i) → m' i = m i) : okR m' := by
  obtain ⟨⟨cn, h1, h2⟩, d, h3, h4, h5, h6⟩ := h
  refine ⟨⟨cn, h1, by rw [he 120 (by omega) (by omega)]; exact h2⟩, d, h3, by rw [he 121 (by omega) (by omega)]; exact h4, fun i hi => ?_, fun i hi => by rw [he i (by omega) (by omega)]; exact h6 i hi⟩
  rw [he (122 + i) (by omega) (by omega)]
  exact h5 i hi
theorem okR_0 : okR zrow := ⟨⟨0, by omega, rfl⟩, 0, by omega, rfl, (fun i hi => by omega), fun i hi => rfl⟩
theorem mput_hi {m : Row} {p i : Nat} {s n : Int32} (hp : p < 40) (hi : 120 ≤ i) : mput m p s n i = m i := by
  unfold mput
  rw [pk_un (by omega), pk_un (by omega), pk_un (by omega)]
def okS (m : Row) (k : Nat) (en : Int32) (z : MSt) : Prop := okR z.1 ∧ z.1 133 = m 133 ∧ (z.2.2.1 = -1 ∨ ((k = 19 ∨ k = 20) ∧ z.2.2.1 = en))
theorem okS_giv {m : Row} {k p : Nat} {s n en : Int32} (h : okR m) (hp : p < 40) : okS m k en (mgiv m p s n) := ⟨okR_hi h (fun i h1 h2 => mput_hi hp h1), mput_hi hp (by omega), Or.inl rfl⟩
theorem okS_trp {m : Row} {k : Nat} {t en : Int32} (h : okR m) : okS m k en (mtrp m t) := ⟨okR_hi h (fun i h1 h2 => pk_un (by omega)), (show upd m 132 (10 + t) 133 = m 133 from pk_un (by decide)), Or.inl rfl⟩
theorem okR_cn {m : Row} {c : Nat} {x : Int32} (h : okR m) (hc : c ≤ 64) (hx : x = nI c) : okR (upd m 120 x) := by
  obtain ⟨-, d, h3, h4, h5, h6⟩ := h
  refine ⟨⟨c, hc, by rw [pk_us]; exact hx⟩, d, h3, by rw [pk_un (by decide)]; exact h4, fun i hi => ?_, fun i hi => by rw [pk_un (by omega)]; exact h6 i hi⟩
  rw [pk_un (by omega)]
  exact h5 i hi
theorem ipl_of {x : Int32} (h : ¬ g_X9_fits 2 x = 0) : ∃ p, p < 64 ∧ x = nI p := by
  rw [ft2] at h
  obtain ⟨p, hp, h1, h2⟩ := in_nat (v := x) h (by decide)
  have e1 : (63 : Int32).toInt = 63 := rfl
  exact ⟨p, by omega, hp⟩
theorem okS_reck {m : Row} {k a b c : Nat} {en : Int32} (h : okR m) (ha : a < 40) : okS m k en (mreck m k a b c) := by
  unfold mreck
  by_cases h1 : ¬ m b = 2 ∨ ¬ m c = 2
  · rw [if_pos h1]; exact okS_trp h
  rw [if_neg h1]
  by_cases h2 : (k = 7 ∨ k = 8) ∧ m (40 + c) = 0
  · rw [if_pos h2]; exact okS_trp h
  rw [if_neg h2]
  by_cases h3 : k = 9
  · rw [if_pos h3]; exact okS_giv h ha
  · rw [if_neg h3]; exact okS_giv h ha
theorem okS_cel {m : Row} {k y : Nat} {en : Int32} {f : Nat → MSt} (h : okR m) (hf : ∀ p, p < 40 → okS m k en (f p)) : okS m k en (mcel m y f) := by
  unfold mcel
  by_cases h1 : m y = 2
  · rw [if_pos h1]
    by_cases h2 : 0 ≤ m (40 + y) ∧ m (40 + y) ≤ 31
    · rw [if_pos h2]
      obtain ⟨q, hq, q1, q2⟩ := in_nat (v := m (40 + y)) (lo := 0) (hi := 31) (fun z => (in_0.mp z) h2) (by decide)
      have e1 : (31 : Int32).toInt = 31 := rfl
      apply hf
      rw [hq, tnn (by omega)]
      omega
    · rw [if_neg h2]; exact okS_trp h
  · rw [if_neg h1]; exact okS_trp h
theorem okS_do {m : Row} {k : Nat} {a b c num en : Int32} (hk : k < 23) (hv : ¬ g_X10_isFine (nI k) a b c = 0) (h : okR m) : okS m k en (mdo m k a b c num en) := by
  obtain ⟨fa, fb, fc⟩ := fine_abc hk hv
  match k, hk, fa, fb, fc with
  | 0, _, fa, fb, fc =>
    exact ⟨okR_hi h (fun i h1 h2 => pk_un (by omega)), (show upd m 132 2 133 = m 133 from pk_un (by decide)), Or.inl rfl⟩
  | 1, _, fa, fb, fc =>
    obtain ⟨p, hp, rfl⟩ := reg_of (x := a) fa
    exact okS_giv h (by rw [tnn (by omega)]; omega)
  | 2, _, fa, fb, fc =>
    obtain ⟨p, hp, rfl⟩ := reg_of (x := a) fa
    exact okS_giv h (by rw [tnn (by omega)]; omega)
  | 3, _, fa, fb, fc =>
    obtain ⟨p, hp, rfl⟩ := reg_of (x := a) fa
    exact okS_giv h (by rw [tnn (by omega)]; omega)
  | 4, _, fa, fb, fc =>
    obtain ⟨p, hp, rfl⟩ := reg_of (x := a) fa
    exact okS_reck h (by rw [tnn (by omega)]; omega)
  | 5, _, fa, fb, fc =>
    obtain ⟨p, hp, rfl⟩ := reg_of (x := a) fa
    exact okS_reck h (by rw [tnn (by omega)]; omega)
  | 6, _, fa, fb, fc =>
    obtain ⟨p, hp, rfl⟩ := reg_of (x := a) fa
    exact okS_reck h (by rw [tnn (by omega)]; omega)
  | 7, _, fa, fb, fc =>
    obtain ⟨p, hp, rfl⟩ := reg_of (x := a) fa
    exact okS_reck h (by rw [tnn (by omega)]; omega)
  | 8, _, fa, fb, fc =>
    obtain ⟨p, hp, rfl⟩ := reg_of (x := a) fa
    exact okS_reck h (by rw [tnn (by omega)]; omega)
  | 9, _, fa, fb, fc =>
    obtain ⟨p, hp, rfl⟩ := reg_of (x := a) fa
    exact okS_reck h (by rw [tnn (by omega)]; omega)
  | 10, _, fa, fb, fc =>
    obtain ⟨p, hp, rfl⟩ := reg_of (x := a) fa
    exact okS_giv h (by rw [tnn (by omega)]; omega)
  | 11, _, fa, fb, fc =>
    obtain ⟨p, hp, rfl⟩ := reg_of (x := a) fa
    show okS m 11 en (if m (tn b) = 1 then mgiv m (tn (nI p)) 1 (1 - m (40 + tn b)) else mtrp m 1)
    by_cases h1 : m (tn b) = 1
    · rw [if_pos h1]; exact okS_giv h (by rw [tnn (by omega)]; omega)
    · rw [if_neg h1]; exact okS_trp h
  | 12, _, fa, fb, fc =>
    obtain ⟨p, hp, rfl⟩ := reg_of (x := a) fa
    show okS m 12 en (if m (tn b) = 1 ∧ m (tn c) = 1 then mgiv m (tn (nI p)) 1 (m (40 + tn b) &&& m (40 + tn c)) else mtrp m 1)
    by_cases h1 : m (tn b) = 1 ∧ m (tn c) = 1
    · rw [if_pos h1]; exact okS_giv h (by rw [tnn (by omega)]; omega)
    · rw [if_neg h1]; exact okS_trp h
  | 13, _, fa, fb, fc =>
    obtain ⟨p, hp, rfl⟩ := reg_of (x := a) fa
    exact okS_cel h (fun q hq => okS_giv h (by rw [tnn (by omega)]; omega))
  | 14, _, fa, fb, fc =>
    exact okS_cel h (fun q hq => okS_giv h hq)
  | 15, _, fa, fb, fc =>
    obtain ⟨p, hp, rfl⟩ := ipl_of (x := a) fa
    exact ⟨okR_cn h (by omega) rfl, (show upd m 120 (nI p) 133 = m 133 from pk_un (by decide)), Or.inl rfl⟩
  | 16, _, fa, fb, fc =>
    obtain ⟨p, hp, rfl⟩ := ipl_of (x := b) fb
    show okS m 16 en (if m (tn a) = 1 then ((if m (40 + tn a) = 1 then upd m 120 (nI p) else m), 0, -1, -1) else mtrp m 1)
    by_cases h1 : m (tn a) = 1
    · rw [if_pos h1]
      by_cases h2 : m (40 + tn a) = 1
      · rw [if_pos h2]; exact ⟨okR_cn h (by omega) rfl, (show upd m 120 (nI p) 133 = m 133 from pk_un (by decide)), Or.inl rfl⟩
      · rw [if_neg h2]; exact ⟨h, rfl, Or.inl rfl⟩
    · rw [if_neg h1]; exact okS_trp h
  | 17, _, fa, fb, fc =>
    obtain ⟨p, hp, rfl⟩ := ipl_of (x := a) fa
    show okS m 17 en (if m 121 = 8 then mtrp m 4 else (upd (upd (upd m (122 + tn (m 121)) (m 120)) 121 (m 121 + 1)) 120 (nI p), 0, -1, -1))
    by_cases h1 : m 121 = 8
    · rw [if_pos h1]; exact okS_trp h
    · rw [if_neg h1]
      obtain ⟨⟨cn, g1, g2⟩, d, h3, h4, h5, h6⟩ := h
      have hd7 : d < 8 := by
        rcases Nat.lt_or_ge d 8 with q | q
        · exact q
        · exact absurd (by rw [h4, show d = 8 by omega]; rfl) h1
      rw [h4, tnn (by omega), nI_1]
      unfold okS okR
      dsimp only
      refine ⟨⟨⟨p, by omega, pk_us⟩, d + 1, by omega, by rw [pk_un (by decide), pk_us], fun i hi => ?_, fun i hi => by rw [pk_un (by omega), pk_un (by omega), pk_un (by omega)]; exact h6 i hi⟩, ?_, Or.inl rfl⟩
      · rw [pk_un (by omega), pk_un (by omega)]
        by_cases q : i = d
        · subst q; rw [pk_us]; exact ⟨cn, g1, g2⟩
        · rw [pk_un (by omega)]; exact h5 i (by omega)
      · show upd _ 120 _ 133 = _
        rw [pk_un (by decide), pk_un (by decide), pk_un (by omega)]
  | 18, _, fa, fb, fc =>
    show okS m 18 en (if m 121 = 0 then (upd m 132 2, 0, -1, -1) else (upd (upd m 121 (m 121 - 1)) 120 (m (122 + tn (m 121 - 1))), 0, -1, -1))
    by_cases h1 : m 121 = 0
    · rw [if_pos h1]; exact ⟨okR_hi h (fun i h1 h2 => pk_un (by omega)), (show upd m 132 2 133 = m 133 from pk_un (by decide)), Or.inl rfl⟩
    · rw [if_neg h1]
      obtain ⟨⟨cn, g1, g2⟩, d, h3, h4, h5, h6⟩ := h
      have hd0 : 0 < d := Nat.pos_of_ne_zero fun q => h1 (by rw [h4, q]; rfl)
      rw [h4, show nI d - 1 = nI (d - 1) from nI_sub (a := d) (b := 1) hd0, tnn (by omega)]
      obtain ⟨cc, k1, k2⟩ := h5 (d - 1) (by omega)
      unfold okS okR
      dsimp only
      refine ⟨⟨⟨cc, k1, by rw [pk_us]; exact k2⟩, d - 1, by omega, by rw [pk_un (by decide), pk_us], fun i hi => ?_, fun i hi => by rw [pk_un (by omega), pk_un (by omega)]; exact h6 i hi⟩, ?_, Or.inl rfl⟩
      · rw [pk_un (by omega), pk_un (by omega)]; exact h5 i (by omega)
      · show upd _ 120 _ 133 = _
        rw [pk_un (by decide), pk_un (by decide)]
  | 19, _, fa, fb, fc =>
    obtain ⟨p, hp, rfl⟩ := reg_of (x := a) fa
    refine ⟨okR_hi h (fun i h1 h2 => mput_hi (by rw [tnn (by omega)]; omega) h1), mput_hi (by rw [tnn (by omega)]; omega) (by omega), Or.inr ⟨by omega, rfl⟩⟩
  | 20, _, fa, fb, fc =>
    obtain ⟨p, hp, rfl⟩ := reg_of (x := a) fa
    refine ⟨okR_hi h (fun i h1 h2 => mput_hi (by rw [tnn (by omega)]; omega) h1), mput_hi (by rw [tnn (by omega)]; omega) (by omega), Or.inr ⟨by omega, rfl⟩⟩
  | 21, _, fa, fb, fc =>
    exact ⟨okR_hi h (fun i h1 h2 => by show upd (upd m 130 (m 130 + 1)) 131 (31 * m 131 + 3 * m (40 + tn a) + m (tn a)) i = m i; rw [pk_un (by omega), pk_un (by omega)]), by show upd (upd m 130 (m 130 + 1)) 131 (31 * m 131 + 3 * m (40 + tn a) + m (tn a)) 133 = m 133; rw [pk_un (by decide), pk_un (by decide)], Or.inl rfl⟩
  | 22, _, fa, fb, fc =>
    obtain ⟨p, hp, rfl⟩ := reg_of (x := a) fa
    exact okS_giv h (by rw [tnn (by omega)]; omega)
  | k + 23, hk, _, _, _ => omega
theorem kind_in {P : Prg} {cn : Nat} (hc : cn ≤ 64) (h : ¬ kindOf P (nI cn) = -1) : cn < 64 ∧ kindOf P (nI cn) = P.1 cn := by
  have hc64 : cn < 64 := by
    rcases Nat.lt_or_ge cn 64 with q | q
    · exact q
    · exfalso
      apply h
      have : cn = 64 := by omega
      subst this
      rfl
  refine ⟨hc64, ?_⟩
  unfold kindOf
  rw [if_pos (show nI cn < (64 : Int32) from nI_lt (a := cn) (b := 64) hc64 (by decide)), tnn (by omega)]
theorem cn_next {cn : Nat} (h : cn ≤ 64) : imin 64 (nI cn + 1) = nI (min 64 (cn + 1)) := by
  rw [nI_1]
  show (if nI (cn + 1) < nI 64 then nI (cn + 1) else nI 64) = _
  by_cases q : cn + 1 < 64
  · rw [if_pos (nI_lt q (by decide)), show min 64 (cn + 1) = cn + 1 by omega]
  · rw [if_neg (nI_nlt (by omega) (by omega)), show min 64 (cn + 1) = 64 by omega]
theorem ok_step {P : Prg} {m : Row} {num en : Int32} (hP : okP P) (h : okR m) : okR (mstep P m num en).1 ∧ (mstep P m num en).1 133 = m 133 + 1 ∧ ((mstep P m num en).2.2.1 = -1 ∨ ((kindOf P (m 120) = 19 ∨ kindOf P (m 120) = 20) ∧ (mstep P m num en).2.2.1 = en)) := by
  obtain ⟨cn, hc1, hc2⟩ := h.1
  have h0 : okR (upd m 120 (imin 64 (m 120 + 1))) := okR_cn h (c := min 64 (cn + 1)) (by omega) (by rw [hc2, cn_next hc1])
  have e3 : (upd m 120 (imin 64 (m 120 + 1))) 133 = m 133 := pk_un (by decide)
  have fin : ∀ (k : Nat) (z : MSt), okS (upd m 120 (imin 64 (m 120 + 1))) k en z → okR (upd z.1 133 (z.1 133 + 1)) ∧ upd z.1 133 (z.1 133 + 1) 133 = m 133 + 1 := fun k z hz => ⟨okR_hi hz.1 (fun i h1 h2 => pk_un (by omega)), by rw [pk_us, hz.2.1, e3]⟩
  unfold mstep
  dsimp only
  by_cases hk : kindOf P (m 120) = -1
  · rw [if_pos hk]
    have := fin 0 _ (okS_trp (t := 5) h0)
    exact ⟨this.1, this.2, Or.inl rfl⟩
  · rw [if_neg hk]
    rw [hc2] at hk
    obtain ⟨hc64, ek⟩ := kind_in hc1 hk
    obtain ⟨k, hk23, ek2⟩ := fine_k (hP cn hc64) (by rw [← ek]; exact hk)
    have hv := hP cn hc64
    rw [ek2] at hv
    rw [hc2] at h0 fin
    rw [hc2, ek, ek2, tnn (by omega), tnn (by omega)]
    have hs := okS_do (num := num) (en := en) hk23 hv h0
    have := fin k _ hs
    refine ⟨this.1, this.2, ?_⟩
    rcases hs.2.2 with q | ⟨q1, q2⟩
    · exact Or.inl q
    · refine Or.inr ⟨?_, q2⟩
      rcases q1 with q | q
      · subst q; exact Or.inl rfl
      · subst q; exact Or.inr rfl
end W_11
