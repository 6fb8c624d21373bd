theorem fine_abc {k : Nat} {a b c : Int32} (hk : k < 23) (hv : ¬ g_X10_isFine (nI k) a b c = 0) : ¬ g_X9_fits (askA k) a = 0 ∧ ¬ g_X9_fits (askB k) b = 0 ∧ ¬ g_X9_fits (askC k) c = 0 := by
  rw [← fine_eq hk] at hv
  refine ⟨fun q => hv (by rw [if_pos q]), fun q => hv ?_, fun q => hv ?_⟩
  · by_cases z : g_X9_fits (askA k) a = 0
    · rw [if_pos z]
    · rw [if_neg z, if_pos q]
  · by_cases z : g_X9_fits (askA k) a = 0
    · rw [if_pos z]
    · rw [if_neg z, if_pos q]
      by_cases z2 : g_X9_fits (askB k) b = 0
      · rw [if_pos z2]
      · rw [if_neg z2]
theorem reg_of {x : Int32} (h : ¬ g_X9_fits 1 x = 0) : ∃ p, p < 8 ∧ x = nI p := by
  rw [ft1] at h
  obtain ⟨p, hp, h1, h2⟩ := in_nat (v := x) h (by decide)
  have e1 : (7 : Int32).toInt = 7 := rfl
  exact ⟨p, by omega, hp⟩
set_option maxHeartbeats 1000000 in
theorem m_does {F o k d ee base : Nat} {a b c : Int32} {u : rg_U} {m : Row} (hk : k < 23) (hv : ¬ g_X10_isFine (nI k) a b c = 0) (ho : (12 : Nat) ≠ o) (hd : m 121 = nI d) (hd8 : d ≤ 8) (hen : (k = 19 ∨ k = 20) → base + ee < 4000) : g_X10_does F o 134 (nI k) a b c (nI ee) (nI base) (sT u o m 0 (-1) (-1)) = some (sTp u o (mdo m k a b c (u.2.1 12 (base + ee)) (nI ee))) := by
  obtain ⟨fa, fb, fc⟩ := fine_abc hk hv
  unfold g_X10_does
  match k, hk, fa, fb, fc, hen with
  | 0, _, fa, fb, fc, hen =>
    rw [if_pos (show nI 0 = 0 by decide), ck_t (by decide), lt1_i, sA_sT]
    rfl
  | 1, _, fa, fb, fc, hen =>
    obtain ⟨p, hp, rfl⟩ := reg_of (x := a) fa
    rw [if_neg (show ¬ nI 1 = 0 by decide), if_pos (show nI 1 = 1 by decide), m_gives (by omega), ob_i]
    show _ = some (sTp u o (mgiv m (tn (nI p)) 2 b))
    rw [tnn (by omega)]
    rfl
  | 2, _, fa, fb, fc, hen =>
    obtain ⟨p, hp, rfl⟩ := reg_of (x := a) fa
    rw [if_neg (show ¬ nI 2 = 0 by decide), if_neg (show ¬ nI 2 = 1 by decide), if_pos (show nI 2 = 2 by decide), m_gives (by omega), ob_i]
    show _ = some (sTp u o (mgiv m (tn (nI p)) 1 b))
    rw [tnn (by omega)]
    rfl
  | 3, _, fa, fb, fc, hen =>
    obtain ⟨p, hp, rfl⟩ := reg_of (x := a) fa
    obtain ⟨q, hq, rfl⟩ := reg_of (x := b) fb
    rw [if_neg (show ¬ nI 3 = 0 by decide), if_neg (show ¬ nI 3 = 1 by decide), if_neg (show ¬ nI 3 = 2 by decide), if_pos (show nI 3 = 3 by decide), c0, c40, ck_t (inb_nI (by omega) (by decide)), ck_t (inb_nI (by omega) (by decide)), rA_sT, rA_sT, tnn (by omega), tnn (by omega), m_gives (by omega), ob_i]
    show _ = some (sTp u o (mgiv m (tn (nI p)) (m (tn (nI q))) (m (40 + tn (nI q)))))
    rw [tnn (by omega), tnn (by omega)]
    rfl
  | 4, _, fa, fb, fc, hen =>
    obtain ⟨p, hp, rfl⟩ := reg_of (x := a) fa
    obtain ⟨q, hq, rfl⟩ := reg_of (x := b) fb
    obtain ⟨r, hr, rfl⟩ := reg_of (x := c) fc
    rw [if_neg (show ¬ nI 4 = 0 by decide), if_neg (show ¬ nI 4 = 1 by decide), if_neg (show ¬ nI 4 = 2 by decide), if_neg (show ¬ nI 4 = 3 by decide), if_neg (show ¬ nI 4 = 10 by decide), if_neg (show ¬ nI 4 = 11 by decide), if_neg (show ¬ nI 4 = 12 by decide), if_neg (show ¬ nI 4 = 13 by decide), if_neg (show ¬ nI 4 = 14 by decide), if_neg (show ¬ nI 4 = 15 by decide), if_neg (show ¬ nI 4 = 16 by decide), if_neg (show ¬ nI 4 = 17 by decide), if_neg (show ¬ nI 4 = 18 by decide), if_neg (show ¬ nI 4 = 19 by decide), if_neg (show ¬ nI 4 = 20 by decide), if_neg (show ¬ nI 4 = 21 by decide), if_neg (show ¬ nI 4 = 22 by decide)]
    unfold g_X10_does_j406
    rw [m_reckons (by omega) (by omega) (by omega) (by omega), ob_i]
    show _ = some (sTp u o (mreck m 4 (tn (nI p)) (tn (nI q)) (tn (nI r))))
    rw [tnn (by omega), tnn (by omega), tnn (by omega)]
  | 5, _, fa, fb, fc, hen =>
    obtain ⟨p, hp, rfl⟩ := reg_of (x := a) fa
    obtain ⟨q, hq, rfl⟩ := reg_of (x := b) fb
    obtain ⟨r, hr, rfl⟩ := reg_of (x := c) fc
    rw [if_neg (show ¬ nI 5 = 0 by decide), if_neg (show ¬ nI 5 = 1 by decide), if_neg (show ¬ nI 5 = 2 by decide), if_neg (show ¬ nI 5 = 3 by decide), if_neg (show ¬ nI 5 = 10 by decide), if_neg (show ¬ nI 5 = 11 by decide), if_neg (show ¬ nI 5 = 12 by decide), if_neg (show ¬ nI 5 = 13 by decide), if_neg (show ¬ nI 5 = 14 by decide), if_neg (show ¬ nI 5 = 15 by decide), if_neg (show ¬ nI 5 = 16 by decide), if_neg (show ¬ nI 5 = 17 by decide), if_neg (show ¬ nI 5 = 18 by decide), if_neg (show ¬ nI 5 = 19 by decide), if_neg (show ¬ nI 5 = 20 by decide), if_neg (show ¬ nI 5 = 21 by decide), if_neg (show ¬ nI 5 = 22 by decide)]
    unfold g_X10_does_j406
    rw [m_reckons (by omega) (by omega) (by omega) (by omega), ob_i]
    show _ = some (sTp u o (mreck m 5 (tn (nI p)) (tn (nI q)) (tn (nI r))))
    rw [tnn (by omega), tnn (by omega), tnn (by omega)]
  | 6, _, fa, fb, fc, hen =>
    obtain ⟨p, hp, rfl⟩ := reg_of (x := a) fa
    obtain ⟨q, hq, rfl⟩ := reg_of (x := b) fb
    obtain ⟨r, hr, rfl⟩ := reg_of (x := c) fc
    rw [if_neg (show ¬ nI 6 = 0 by decide), if_neg (show ¬ nI 6 = 1 by decide), if_neg (show ¬ nI 6 = 2 by decide), if_neg (show ¬ nI 6 = 3 by decide), if_neg (show ¬ nI 6 = 10 by decide), if_neg (show ¬ nI 6 = 11 by decide), if_neg (show ¬ nI 6 = 12 by decide), if_neg (show ¬ nI 6 = 13 by decide), if_neg (show ¬ nI 6 = 14 by decide), if_neg (show ¬ nI 6 = 15 by decide), if_neg (show ¬ nI 6 = 16 by decide), if_neg (show ¬ nI 6 = 17 by decide), if_neg (show ¬ nI 6 = 18 by decide), if_neg (show ¬ nI 6 = 19 by decide), if_neg (show ¬ nI 6 = 20 by decide), if_neg (show ¬ nI 6 = 21 by decide), if_neg (show ¬ nI 6 = 22 by decide)]
    unfold g_X10_does_j406
    rw [m_reckons (by omega) (by omega) (by omega) (by omega), ob_i]
    show _ = some (sTp u o (mreck m 6 (tn (nI p)) (tn (nI q)) (tn (nI r))))
    rw [tnn (by omega), tnn (by omega), tnn (by omega)]
  | 7, _, fa, fb, fc, hen =>
    obtain ⟨p, hp, rfl⟩ := reg_of (x := a) fa
    obtain ⟨q, hq, rfl⟩ := reg_of (x := b) fb
    obtain ⟨r, hr, rfl⟩ := reg_of (x := c) fc
    rw [if_neg (show ¬ nI 7 = 0 by decide), if_neg (show ¬ nI 7 = 1 by decide), if_neg (show ¬ nI 7 = 2 by decide), if_neg (show ¬ nI 7 = 3 by decide), if_neg (show ¬ nI 7 = 10 by decide), if_neg (show ¬ nI 7 = 11 by decide), if_neg (show ¬ nI 7 = 12 by decide), if_neg (show ¬ nI 7 = 13 by decide), if_neg (show ¬ nI 7 = 14 by decide), if_neg (show ¬ nI 7 = 15 by decide), if_neg (show ¬ nI 7 = 16 by decide), if_neg (show ¬ nI 7 = 17 by decide), if_neg (show ¬ nI 7 = 18 by decide), if_neg (show ¬ nI 7 = 19 by decide), if_neg (show ¬ nI 7 = 20 by decide), if_neg (show ¬ nI 7 = 21 by decide), if_neg (show ¬ nI 7 = 22 by decide)]
    unfold g_X10_does_j406
    rw [m_reckons (by omega) (by omega) (by omega) (by omega), ob_i]
    show _ = some (sTp u o (mreck m 7 (tn (nI p)) (tn (nI q)) (tn (nI r))))
    rw [tnn (by omega), tnn (by omega), tnn (by omega)]
  | 8, _, fa, fb, fc, hen =>
    obtain ⟨p, hp, rfl⟩ := reg_of (x := a) fa
    obtain ⟨q, hq, rfl⟩ := reg_of (x := b) fb
    obtain ⟨r, hr, rfl⟩ := reg_of (x := c) fc
    rw [if_neg (show ¬ nI 8 = 0 by decide), if_neg (show ¬ nI 8 = 1 by decide), if_neg (show ¬ nI 8 = 2 by decide), if_neg (show ¬ nI 8 = 3 by decide), if_neg (show ¬ nI 8 = 10 by decide), if_neg (show ¬ nI 8 = 11 by decide), if_neg (show ¬ nI 8 = 12 by decide), if_neg (show ¬ nI 8 = 13 by decide), if_neg (show ¬ nI 8 = 14 by decide), if_neg (show ¬ nI 8 = 15 by decide), if_neg (show ¬ nI 8 = 16 by decide), if_neg (show ¬ nI 8 = 17 by decide), if_neg (show ¬ nI 8 = 18 by decide), if_neg (show ¬ nI 8 = 19 by decide), if_neg (show ¬ nI 8 = 20 by decide), if_neg (show ¬ nI 8 = 21 by decide), if_neg (show ¬ nI 8 = 22 by decide)]
    unfold g_X10_does_j406
    rw [m_reckons (by omega) (by omega) (by omega) (by omega), ob_i]
    show _ = some (sTp u o (mreck m 8 (tn (nI p)) (tn (nI q)) (tn (nI r))))
    rw [tnn (by omega), tnn (by omega), tnn (by omega)]
  | 9, _, fa, fb, fc, hen =>
    obtain ⟨p, hp, rfl⟩ := reg_of (x := a) fa
    obtain ⟨q, hq, rfl⟩ := reg_of (x := b) fb
    obtain ⟨r, hr, rfl⟩ := reg_of (x := c) fc
    rw [if_neg (show ¬ nI 9 = 0 by decide), if_neg (show ¬ nI 9 = 1 by decide), if_neg (show ¬ nI 9 = 2 by decide), if_neg (show ¬ nI 9 = 3 by decide), if_neg (show ¬ nI 9 = 10 by decide), if_neg (show ¬ nI 9 = 11 by decide), if_neg (show ¬ nI 9 = 12 by decide), if_neg (show ¬ nI 9 = 13 by decide), if_neg (show ¬ nI 9 = 14 by decide), if_neg (show ¬ nI 9 = 15 by decide), if_neg (show ¬ nI 9 = 16 by decide), if_neg (show ¬ nI 9 = 17 by decide), if_neg (show ¬ nI 9 = 18 by decide), if_neg (show ¬ nI 9 = 19 by decide), if_neg (show ¬ nI 9 = 20 by decide), if_neg (show ¬ nI 9 = 21 by decide), if_neg (show ¬ nI 9 = 22 by decide)]
    unfold g_X10_does_j406
    rw [m_reckons (by omega) (by omega) (by omega) (by omega), ob_i]
    show _ = some (sTp u o (mreck m 9 (tn (nI p)) (tn (nI q)) (tn (nI r))))
    rw [tnn (by omega), tnn (by omega), tnn (by omega)]
  | 10, _, fa, fb, fc, hen =>
    obtain ⟨p, hp, rfl⟩ := reg_of (x := a) fa
    obtain ⟨q, hq, rfl⟩ := reg_of (x := b) fb
    obtain ⟨r, hr, rfl⟩ := reg_of (x := c) fc
    rw [if_neg (show ¬ nI 10 = 0 by decide), if_neg (show ¬ nI 10 = 1 by decide), if_neg (show ¬ nI 10 = 2 by decide), if_neg (show ¬ nI 10 = 3 by decide), if_pos (show nI 10 = 10 by decide)]
    simp only [c0, c40, ck_t (inb_nI (show q < 134 by omega) (by decide)), ck_t (inb_nI (show r < 134 by omega) (by decide)), ck_t (inb_nI (show 40 + q < 134 by omega) (by decide)), ck_t (inb_nI (show 40 + r < 134 by omega) (by decide)), rA_sT, tnn (show q < 2 ^ 31 by omega), tnn (show r < 2 ^ 31 by omega), tnn (show 40 + q < 2 ^ 31 by omega), tnn (show 40 + r < 2 ^ 31 by omega)]
    unfold g_X10_does_j203 g_X10_does_j204
    simp only [m_gives (show p < 40 by omega), ob_i]
    show _ = some (sTp u o (mgiv m (tn (nI p)) 1 (if m (tn (nI q)) = m (tn (nI r)) ∧ m (40 + tn (nI q)) = m (40 + tn (nI r)) then 1 else 0)))
    rw [tnn (by omega), tnn (by omega), tnn (by omega)]
    by_cases h1 : m q = m r
    · by_cases h2 : m (40 + q) = m (40 + r)
      · rw [if_pos h1, if_pos h2, if_pos ⟨h1, h2⟩]; rfl
      · rw [if_pos h1, if_neg h2, if_neg (fun z => h2 z.2)]; rfl
    · rw [if_neg h1, if_neg (fun z => h1 z.1)]; rfl
  | 11, _, fa, fb, fc, hen =>
    obtain ⟨p, hp, rfl⟩ := reg_of (x := a) fa
    obtain ⟨q, hq, rfl⟩ := reg_of (x := b) fb
    rw [if_neg (show ¬ nI 11 = 0 by decide), if_neg (show ¬ nI 11 = 1 by decide), if_neg (show ¬ nI 11 = 2 by decide), if_neg (show ¬ nI 11 = 3 by decide), if_neg (show ¬ nI 11 = 10 by decide), if_pos (show nI 11 = 11 by decide), m_isOf (by omega), ob_i, m_traps, ob_i, c40, ck_t (inb_nI (by omega) (by decide)), rA_sT, tnn (by omega), m_gives (by omega), ob_i]
    show _ = some (sTp u o (if m (tn (nI q)) = 1 then mgiv m (tn (nI p)) 1 (1 - m (40 + tn (nI q))) else mtrp m 1))
    rw [tnn (by omega), tnn (by omega)]
    by_cases h1 : m q = 1
    · rw [if_pos h1, if_neg one_n0, if_pos h1]; rfl
    · rw [if_neg h1, if_pos rfl, if_neg h1]; rfl
  | 12, _, fa, fb, fc, hen =>
    obtain ⟨p, hp, rfl⟩ := reg_of (x := a) fa
    obtain ⟨q, hq, rfl⟩ := reg_of (x := b) fb
    obtain ⟨r, hr, rfl⟩ := reg_of (x := c) fc
    rw [if_neg (show ¬ nI 12 = 0 by decide), if_neg (show ¬ nI 12 = 1 by decide), if_neg (show ¬ nI 12 = 2 by decide), if_neg (show ¬ nI 12 = 3 by decide), if_neg (show ¬ nI 12 = 10 by decide), if_neg (show ¬ nI 12 = 11 by decide), if_pos (show nI 12 = 12 by decide), m_isOf (by omega), ob_i, m_isOf (by omega), ob_i]
    unfold g_X10_does_j296
    rw [m_traps, ob_i]
    simp only [c40, ck_t (inb_nI (show 40 + q < 134 by omega) (by decide)), ck_t (inb_nI (show 40 + r < 134 by omega) (by decide)), rA_sT, tnn (show 40 + q < 2 ^ 31 by omega), tnn (show 40 + r < 2 ^ 31 by omega), m_gives (show p < 40 by omega), ob_i]
    show _ = some (sTp u o (if m (tn (nI q)) = 1 ∧ m (tn (nI r)) = 1 then mgiv m (tn (nI p)) 1 (m (40 + tn (nI q)) &&& m (40 + tn (nI r))) else mtrp m 1))
    rw [tnn (by omega), tnn (by omega), tnn (by omega)]
    by_cases h1 : m q = 1
    · rw [if_pos h1, if_neg one_n0]
      by_cases h2 : m r = 1
      · rw [if_pos h2, if_neg one_n0, if_pos ⟨h1, h2⟩]; rfl
      · rw [if_neg h2, if_pos rfl, if_neg (fun z => h2 z.2)]; rfl
    · rw [if_neg h1, if_pos rfl, if_neg (fun z => h1 z.1)]; rfl
  | 13, _, fa, fb, fc, hen =>
    obtain ⟨p, hp, rfl⟩ := reg_of (x := a) fa
    obtain ⟨q, hq, rfl⟩ := reg_of (x := b) fb
    rw [if_neg (show ¬ nI 13 = 0 by decide), if_neg (show ¬ nI 13 = 1 by decide), if_neg (show ¬ nI 13 = 2 by decide), if_neg (show ¬ nI 13 = 3 by decide), if_neg (show ¬ nI 13 = 10 by decide), if_neg (show ¬ nI 13 = 11 by decide), if_neg (show ¬ nI 13 = 12 by decide), if_pos (show nI 13 = 13 by decide)]
    unfold g_X10_does_j305
    rw [m_cells (by omega) (by omega) (by omega), ob_i]
    show _ = some (sTp u o (mcel m (tn (nI q)) (fun z => mgiv m (tn (nI p)) (m z) (m (40 + z)))))
    rw [tnn (show p < 2 ^ 31 by omega), tnn (show q < 2 ^ 31 by omega)]
    rfl
  | 14, _, fa, fb, fc, hen =>
    obtain ⟨p, hp, rfl⟩ := reg_of (x := a) fa
    obtain ⟨q, hq, rfl⟩ := reg_of (x := b) fb
    rw [if_neg (show ¬ nI 14 = 0 by decide), if_neg (show ¬ nI 14 = 1 by decide), if_neg (show ¬ nI 14 = 2 by decide), if_neg (show ¬ nI 14 = 3 by decide), if_neg (show ¬ nI 14 = 10 by decide), if_neg (show ¬ nI 14 = 11 by decide), if_neg (show ¬ nI 14 = 12 by decide), if_neg (show ¬ nI 14 = 13 by decide), if_pos (show nI 14 = 14 by decide)]
    unfold g_X10_does_j305
    rw [m_cells (by omega) (by omega) (by omega), ob_i]
    show _ = some (sTp u o (mcel m (tn (nI p)) (fun z => mgiv m z (m (tn (nI q))) (m (40 + tn (nI q))))))
    rw [tnn (show p < 2 ^ 31 by omega), tnn (show q < 2 ^ 31 by omega)]
    rfl
  | 15, _, fa, fb, fc, hen =>
    rw [if_neg (show ¬ nI 15 = 0 by decide), if_neg (show ¬ nI 15 = 1 by decide), if_neg (show ¬ nI 15 = 2 by decide), if_neg (show ¬ nI 15 = 3 by decide), if_neg (show ¬ nI 15 = 10 by decide), if_neg (show ¬ nI 15 = 11 by decide), if_neg (show ¬ nI 15 = 12 by decide), if_neg (show ¬ nI 15 = 13 by decide), if_neg (show ¬ nI 15 = 14 by decide), if_pos (show nI 15 = 15 by decide)]
    unfold g_X10_does_j317
    rw [m_goes (by omega) (fun z => absurd z (by decide)) hd hd8 c (u.2.1 12 (base + ee)) (nI ee), ob_i]
  | 16, _, fa, fb, fc, hen =>
    rw [if_neg (show ¬ nI 16 = 0 by decide), if_neg (show ¬ nI 16 = 1 by decide), if_neg (show ¬ nI 16 = 2 by decide), if_neg (show ¬ nI 16 = 3 by decide), if_neg (show ¬ nI 16 = 10 by decide), if_neg (show ¬ nI 16 = 11 by decide), if_neg (show ¬ nI 16 = 12 by decide), if_neg (show ¬ nI 16 = 13 by decide), if_neg (show ¬ nI 16 = 14 by decide), if_neg (show ¬ nI 16 = 15 by decide), if_pos (show nI 16 = 16 by decide)]
    unfold g_X10_does_j317
    rw [m_goes (by omega) (fun _ => ?_) hd hd8 c (u.2.1 12 (base + ee)) (nI ee), ob_i]
    obtain ⟨p, hp, e1⟩ := reg_of (x := a) fa
    exact ⟨p, by omega, e1⟩
  | 17, _, fa, fb, fc, hen =>
    rw [if_neg (show ¬ nI 17 = 0 by decide), if_neg (show ¬ nI 17 = 1 by decide), if_neg (show ¬ nI 17 = 2 by decide), if_neg (show ¬ nI 17 = 3 by decide), if_neg (show ¬ nI 17 = 10 by decide), if_neg (show ¬ nI 17 = 11 by decide), if_neg (show ¬ nI 17 = 12 by decide), if_neg (show ¬ nI 17 = 13 by decide), if_neg (show ¬ nI 17 = 14 by decide), if_neg (show ¬ nI 17 = 15 by decide), if_neg (show ¬ nI 17 = 16 by decide), if_pos (show nI 17 = 17 by decide)]
    unfold g_X10_does_j317
    rw [m_goes (by omega) (fun z => absurd z (by decide)) hd hd8 c (u.2.1 12 (base + ee)) (nI ee), ob_i]
  | 18, _, fa, fb, fc, hen =>
    rw [if_neg (show ¬ nI 18 = 0 by decide), if_neg (show ¬ nI 18 = 1 by decide), if_neg (show ¬ nI 18 = 2 by decide), if_neg (show ¬ nI 18 = 3 by decide), if_neg (show ¬ nI 18 = 10 by decide), if_neg (show ¬ nI 18 = 11 by decide), if_neg (show ¬ nI 18 = 12 by decide), if_neg (show ¬ nI 18 = 13 by decide), if_neg (show ¬ nI 18 = 14 by decide), if_neg (show ¬ nI 18 = 15 by decide), if_neg (show ¬ nI 18 = 16 by decide), if_neg (show ¬ nI 18 = 17 by decide), if_pos (show nI 18 = 18 by decide)]
    unfold g_X10_does_j317
    rw [m_goes (by omega) (fun z => absurd z (by decide)) hd hd8 c (u.2.1 12 (base + ee)) (nI ee), ob_i]
  | 19, _, fa, fb, fc, hen =>
    obtain ⟨p, hp, rfl⟩ := reg_of (x := a) fa
    have hen := hen (by omega)
    rw [if_neg (show ¬ nI 19 = 0 by decide), if_neg (show ¬ nI 19 = 1 by decide), if_neg (show ¬ nI 19 = 2 by decide), if_neg (show ¬ nI 19 = 3 by decide), if_neg (show ¬ nI 19 = 10 by decide), if_neg (show ¬ nI 19 = 11 by decide), if_neg (show ¬ nI 19 = 12 by decide), if_neg (show ¬ nI 19 = 13 by decide), if_neg (show ¬ nI 19 = 14 by decide), if_neg (show ¬ nI 19 = 15 by decide), if_neg (show ¬ nI 19 = 16 by decide), if_neg (show ¬ nI 19 = 17 by decide), if_neg (show ¬ nI 19 = 18 by decide), if_pos (show nI 19 = 19 by decide)]
    unfold g_X10_does_j329
    rw [lt1_i, sF_38, nI_add, ck_t (inb_nI hen (by decide)), rA_sTn ho, tnn (by omega), m_gives (by omega), ob_i]
    show _ = some (sT u o (mput m (tn (nI p)) 2 (u.2.1 12 (base + ee))) 0 (nI ee) (nI p))
    rw [tnn (by omega)]
  | 20, _, fa, fb, fc, hen =>
    obtain ⟨p, hp, rfl⟩ := reg_of (x := a) fa
    have hen := hen (by omega)
    rw [if_neg (show ¬ nI 20 = 0 by decide), if_neg (show ¬ nI 20 = 1 by decide), if_neg (show ¬ nI 20 = 2 by decide), if_neg (show ¬ nI 20 = 3 by decide), if_neg (show ¬ nI 20 = 10 by decide), if_neg (show ¬ nI 20 = 11 by decide), if_neg (show ¬ nI 20 = 12 by decide), if_neg (show ¬ nI 20 = 13 by decide), if_neg (show ¬ nI 20 = 14 by decide), if_neg (show ¬ nI 20 = 15 by decide), if_neg (show ¬ nI 20 = 16 by decide), if_neg (show ¬ nI 20 = 17 by decide), if_neg (show ¬ nI 20 = 18 by decide), if_neg (show ¬ nI 20 = 19 by decide), if_pos (show nI 20 = 20 by decide)]
    unfold g_X10_does_j329
    rw [lt1_i, sF_38, nI_add, ck_t (inb_nI hen (by decide)), rA_sTn ho, tnn (by omega), m_gives (by omega), ob_i]
    show _ = some (sT u o (mput m (tn (nI p)) 2 (u.2.1 12 (base + ee))) 0 (nI ee) (nI p))
    rw [tnn (by omega)]
  | 21, _, fa, fb, fc, hen =>
    obtain ⟨p, hp, rfl⟩ := reg_of (x := a) fa
    rw [if_neg (show ¬ nI 21 = 0 by decide), if_neg (show ¬ nI 21 = 1 by decide), if_neg (show ¬ nI 21 = 2 by decide), if_neg (show ¬ nI 21 = 3 by decide), if_neg (show ¬ nI 21 = 10 by decide), if_neg (show ¬ nI 21 = 11 by decide), if_neg (show ¬ nI 21 = 12 by decide), if_neg (show ¬ nI 21 = 13 by decide), if_neg (show ¬ nI 21 = 14 by decide), if_neg (show ¬ nI 21 = 15 by decide), if_neg (show ¬ nI 21 = 16 by decide), if_neg (show ¬ nI 21 = 17 by decide), if_neg (show ¬ nI 21 = 18 by decide), if_neg (show ¬ nI 21 = 19 by decide), if_neg (show ¬ nI 21 = 20 by decide), if_pos (show nI 21 = 21 by decide), ck_t (by decide), ck_t (by decide)]
    simp only [lt1_i, c0, c40, ck_t (inb_nI (show p < 134 by omega) (by decide)), ck_t (inb_nI (show 40 + p < 134 by omega) (by decide)), ck_t (show inb 131 134 by decide), rA_sT, sA_sT, show tn 130 = 130 from by decide, show tn 131 = 131 from by decide, tnn (show p < 2 ^ 31 by omega), tnn (show 40 + p < 2 ^ 31 by omega)]
    rw [pk_un (show (131 : Nat) ≠ 130 by decide), pk_un (show 40 + p ≠ 130 by omega), pk_un (show p ≠ 130 by omega)]
    show _ = some (sTp u o (upd (upd m 130 (m 130 + 1)) 131 (31 * m 131 + 3 * m (40 + tn (nI p)) + m (tn (nI p))), 0, -1, -1))
    rw [tnn (by omega)]
    rfl
  | 22, _, fa, fb, fc, hen =>
    obtain ⟨p, hp, rfl⟩ := reg_of (x := a) fa
    rw [if_neg (show ¬ nI 22 = 0 by decide), if_neg (show ¬ nI 22 = 1 by decide), if_neg (show ¬ nI 22 = 2 by decide), if_neg (show ¬ nI 22 = 3 by decide), if_neg (show ¬ nI 22 = 10 by decide), if_neg (show ¬ nI 22 = 11 by decide), if_neg (show ¬ nI 22 = 12 by decide), if_neg (show ¬ nI 22 = 13 by decide), if_neg (show ¬ nI 22 = 14 by decide), if_neg (show ¬ nI 22 = 15 by decide), if_neg (show ¬ nI 22 = 16 by decide), if_neg (show ¬ nI 22 = 17 by decide), if_neg (show ¬ nI 22 = 18 by decide), if_neg (show ¬ nI 22 = 19 by decide), if_neg (show ¬ nI 22 = 20 by decide), if_neg (show ¬ nI 22 = 21 by decide), if_pos (show nI 22 = 22 by decide), m_gives (by omega), ob_i]
    show _ = some (sTp u o (mgiv m (tn (nI p)) 0 0))
    rw [tnn (by omega)]
    rfl
  | k + 23, hk, _, _, _, _ => omega
/-- the program of a run: kinds, then a, b, c -/
abbrev Prg : Type := (Nat → Int32) × (Nat → Int32) × (Nat → Int32) × (Nat → Int32)
def kindOf (P : Prg) (x : Int32) : Int32 := if x < 64 then P.1 (tn x) else -1
def mstep (P : Prg) (m : Row) (num en : Int32) : MSt :=
  let z := if kindOf P (m 120) = -1 then mtrp (upd m 120 (imin 64 (m 120 + 1))) 5 else mdo (upd m 120 (imin 64 (m 120 + 1))) (tn (kindOf P (m 120))) (P.2.1 (tn (m 120))) (P.2.2.1 (tn (m 120))) (P.2.2.2 (tn (m 120))) num en
  (upd z.1 133 (z.1 133 + 1), z.2)
def okP (P : Prg) : Prop := ∀ k, k < 64 → ¬ g_X10_isFine (P.1 k) (P.2.1 k) (P.2.2.1 k) (P.2.2.2 k) = 0
/-- a row of numbers, 0 beyond N -/
def ct (N : Nat) (f : Nat → Int32) : Nat → Int32 := fun k => if k < N then f k else 0
theorem ct_lt {N k : Nat} {f : Nat → Int32} (h : k < N) : ct N f k = f k := if_pos h
theorem ct_c {N : Nat} {f g : Nat → Int32} (h : ∀ k, k < N → f k = g k) : ct N f = ct N g := by
  funext k
  unfold ct
  by_cases q : k < N
  · rw [if_pos q, if_pos q, h k q]
  · rw [if_neg q, if_neg q]
def Pm (u : rg_U) (r : Nat) : Prg := (ct 64 (fun k => u.2.1 6 (64 * r + k)), ct 64 (fun k => u.2.1 7 (64 * r + k)), ct 64 (fun k => u.2.1 8 (64 * r + k)), ct 64 (fun k => u.2.1 9 (64 * r + k)))
theorem Pm_0 {u : rg_U} {r k : Nat} (h : k < 64) : (Pm u r).1 k = u.2.1 6 (64 * r + k) := by
  show ct 64 (fun k => u.2.1 6 (64 * r + k)) k = _
  rw [ct_lt h]
theorem Pm_1 {u : rg_U} {r k : Nat} (h : k < 64) : (Pm u r).2.1 k = u.2.1 7 (64 * r + k) := by
  show ct 64 (fun k => u.2.1 7 (64 * r + k)) k = _
  rw [ct_lt h]
theorem Pm_2 {u : rg_U} {r k : Nat} (h : k < 64) : (Pm u r).2.2.1 k = u.2.1 8 (64 * r + k) := by
  show ct 64 (fun k => u.2.1 8 (64 * r + k)) k = _
  rw [ct_lt h]
theorem Pm_3 {u : rg_U} {r k : Nat} (h : k < 64) : (Pm u r).2.2.2 k = u.2.1 9 (64 * r + k) := by
  show ct 64 (fun k => u.2.1 9 (64 * r + k)) k = _
  rw [ct_lt h]
theorem fine_k {x a b c : Int32} (h : ¬ g_X10_isFine x a b c = 0) (h1 : ¬ x = -1) : ∃ k, k < 23 ∧ x = nI k := by
  by_cases h0 : x < 0
  · exact absurd (fine_out h1 (Or.inl h0)) h
  · by_cases h23 : (23 : Int32) ≤ x
    · exact absurd (fine_out h1 (Or.inr h23)) h
    · obtain ⟨k, hk, rfl⟩ := nI_of h0
      exact ⟨k, Nat.not_le.mp fun q => h23 (nI_le (a := 23) (b := k) q hk), rfl⟩
theorem m_kindAt {F r cn : Nat} {u : rg_U} (hr : r < 5) (hc : cn ≤ 64) : g_X10_kindAt F (nI r) (nI cn) u = some (kindOf (Pm u r) (nI cn)) := by
  unfold g_X10_kindAt kindOf
  by_cases h : nI cn < 64
  · have hc2 : cn < 64 := (nI_ltI (a := cn) (b := 64) (by omega) (by decide)).mp h
    rw [if_pos h, if_pos h, show (64 : Int32) * nI r = nI (64 * r) from pk_mul 64 r, nI_add, ck_t (inb_nI (by omega) (by decide)), rA_nI (by omega), tnn (by omega)]
    show _ = some (ct 64 (fun k => u.2.1 6 (64 * r + k)) cn)
    rw [ct_lt hc2]
  · rw [if_neg h, if_neg h]
theorem sTp_133 {u : rg_U} {o : Nat} {z : MSt} : sA (sTp u o z) o 133 (rA (sTp u o z) o 133 + 1) = sTp u o (upd z.1 133 (z.1 133 + 1), z.2) := by
  unfold sTp
  rw [rA_sT, sA_sT]
  rfl
theorem m_steps {F o r cn d ee : Nat} {u : rg_U} (hr : r < 5) (ho : 12 < o) (hP : okP (Pm u r)) (hc : u.2.1 o 120 = nI cn) (hcn : cn ≤ 64) (hd : u.2.1 o 121 = nI d) (hd8 : d ≤ 8) (hen : (kindOf (Pm u r) (nI cn) = 19 ∨ kindOf (Pm u r) (nI cn) = 20) → 800 * r + ee < 4000) : g_X10_steps F o 134 (nI r) (nI ee) u = some (sTp u o (mstep (Pm u r) (u.2.1 o) (u.2.1 12 (800 * r + ee)) (nI ee))) := by
  unfold g_X10_steps
  have e120 : rA u o 120 = nI cn := hc
  rw [ck_t (by decide), e120, m_kindAt hr hcn, ob_i]
  simp only [lt1_i]
  rw [ck_t (by decide), sT_0 (o := o), sA_sT]
  unfold mstep
  rw [hc]
  dsimp only
  rw [show tn 120 = 120 from by decide]
  by_cases h : kindOf (Pm u r) (nI cn) = -1
  · rw [if_pos h, if_pos h, m_traps, ob_i, ck_t (by decide), ck_t (by decide)]
    exact congrArg some (sTp_133 (u := u) (o := o) (z := mtrp (upd (u.2.1 o) 120 (imin 64 (nI cn + 1))) 5))
  · rw [if_neg h, if_neg h]
    have hc64 : cn < 64 := by
      rcases Nat.lt_or_ge cn 64 with q | q
      · exact q
      · exfalso
        apply h
        have : cn = 64 := by omega
        subst this
        rfl
    have hk : kindOf (Pm u r) (nI cn) = (Pm u r).1 cn := by
      unfold kindOf
      rw [if_pos (show nI cn < (64 : Int32) from nI_lt (a := cn) (b := 64) hc64 (by decide)), tnn (by omega)]
    obtain ⟨k, hk23, ek⟩ := fine_k (hP cn hc64) (by rw [← hk]; exact h)
    rw [show (64 : Int32) * nI r = nI (64 * r) from pk_mul 64 r, nI_add, ck_t (inb_nI (by omega) (by decide)), ck_t (inb_nI (by omega) (by decide)), ck_t (inb_nI (by omega) (by decide)), rA_sTn (by omega), rA_sTn (by omega), rA_sTn (by omega), tnn (by omega), hk, ek, show (800 : Int32) * nI r = nI (800 * r) from pk_mul 800 r]
    have hv := hP cn hc64
    rw [ek] at hv
    have key : g_X10_does F o 134 (nI k) ((Pm u r).2.1 cn) ((Pm u r).2.2.1 cn) ((Pm u r).2.2.2 cn) (nI ee) (nI (800 * r)) (sT u o (upd (u.2.1 o) 120 (imin 64 (nI cn + 1))) 0 (-1) (-1)) = some (sTp u o (mdo (upd (u.2.1 o) 120 (imin 64 (nI cn + 1))) k ((Pm u r).2.1 cn) ((Pm u r).2.2.1 cn) ((Pm u r).2.2.2 cn) (u.2.1 12 (800 * r + ee)) (nI ee))) := m_does (a := (Pm u r).2.1 cn) (b := (Pm u r).2.2.1 cn) (c := (Pm u r).2.2.2 cn) hk23 hv (by omega) (d := d) (by rw [pk_un (by decide)]; exact hd) hd8 (fun q => hen (by
      rw [hk, ek]
      rcases q with q | q
      · subst q; exact Or.inl rfl
      · subst q; exact Or.inr rfl))
    have p1 : (Pm u r).2.1 cn = u.2.1 7 (64 * r + cn) := Pm_1 hc64
    have p2 : (Pm u r).2.2.1 cn = u.2.1 8 (64 * r + cn) := Pm_2 hc64
    have p3 : (Pm u r).2.2.2 cn = u.2.1 9 (64 * r + cn) := Pm_3 hc64
    rw [← p1, ← p2, ← p3, key, ob_i, ck_t (by decide), ck_t (by decide), tnn (show k < 2 ^ 31 by omega), tnn (show cn < 2 ^ 31 by omega)]
    exact congrArg some sTp_133
