section W_12
-- 95.lays
/-- a step that takes nothing doesn't ask the log -/
theorem do_num {m : Row} {k : Nat} {a b c num en num' en' : Int32} (h1 : k ≠ 19) (h2 : k ≠ 20) : mdo m k a b c num en = mdo m k a b c num' en' := by
  unfold mdo
  split <;> first | rfl | (exfalso; omega)
theorem step_num {P : Prg} {m : Row} {num en num' en' : Int32} (hP : okP P) (hm : okR m) (h1 : ¬ kindOf P (m 120) = 19) (h2 : ¬ kindOf P (m 120) = 20) : mstep P m num en = mstep P m num' en' := by
  unfold mstep
  by_cases hk : kindOf P (m 120) = -1
  · rw [if_pos hk, if_pos hk]
  · rw [if_neg hk, if_neg hk]
    obtain ⟨cn, hc1, hc2⟩ := hm.1
    rw [hc2] at hk h1 h2 ⊢
    obtain ⟨hc64, ek⟩ := kind_in hc1 hk
    obtain ⟨k, hk23, ek2⟩ := fine_k (hP cn hc64) (by rw [← ek]; exact hk)
    rw [ek, ek2] at h1 h2 ⊢
    rw [tnn (show k < 2 ^ 31 by omega)]
    rw [do_num (m := upd m 120 (imin 64 (nI cn + 1))) (num := num) (en := en) (num' := num') (en' := en') (fun q => h1 (by rw [q]; rfl)) (fun q => h2 (by rw [q]; rfl))]
theorem step_take {P : Prg} {m : Row} {num en : Int32} (h : kindOf P (m 120) = 19 ∨ kindOf P (m 120) = 20) : (mstep P m num en).2.2.1 = en := by
  unfold mstep
  rcases h with h | h
  · rw [h, if_neg (by decide)]; rfl
  · rw [h, if_neg (by decide)]; rfl
/-! the states of a run's times, and that the reference comes to them -/
theorem spk_ok {L : Lg} {n : Nat} (hL : okL L n) : ∀ (f : Nat) (m : Row) (l : Nat), n - l = f → okR m → okR (spk L n m l).1 ∧ ∀ i, 120 ≤ i → (spk L n m l).1 i = m i
  | f, m, l, hf, h => by
    by_cases q : l < n ∧ L.2.1 l = 2 ∧ L.1 l = m 133
    · rw [spk_yes q]
      obtain ⟨p, hp, ep⟩ := hL l q.1 q.2.1
      match f, hf with
      | 0, hf => omega
      | f + 1, hf =>
        have h2 : ∀ i, 120 ≤ i → mput m (tn (L.2.2.2.1 l)) (L.2.2.2.2 l) (L.2.2.1 l) i = m i := fun i hi => mput_hi (by rw [ep, tnn (by omega)]; exact hp) hi
        have h3 := spk_ok hL f (mput m (tn (L.2.2.2.1 l)) (L.2.2.2.2 l) (L.2.2.1 l)) (l + 1) (by omega) (okR_hi h (fun i a b => h2 i a))
        exact ⟨h3.1, fun i hi => (h3.2 i hi).trans (h2 i hi)⟩
    · rw [spk_no q]
      exact ⟨h, fun i hi => rfl⟩
/-- a run of T steps whose log has n entries: the program can be, pokes go to places, no step takes what the log hasn't -/
def okG (P : Prg) (L : Lg) (n T : Nat) : Prop := okP P ∧ okL L n ∧ n ≤ 800 ∧ T ≤ 3000 ∧ ∀ t, t < T → (kindOf P ((rp P L n t).1 120) = 19 ∨ kindOf P ((rp P L n t).1 120) = 20) → (rp P L n t).2 < n
theorem nI_m1 {l : Nat} (h : l < 2 ^ 31) : ¬ nI l = -1 := fun q => by
  have h1 := nI_toInt h
  rw [q] at h1
  have h2 : (-1 : Int32).toInt = -1 := by decide
  omega
theorem nxt_l {P : Prg} {m : Row} {num : Int32} {l : Nat} (hP : okP P) (hm : okR m) (hl : l < 2 ^ 31) : (mstep P m num (nI l)).2.2.1 = -1 ∨ ((kindOf P (m 120) = 19 ∨ kindOf P (m 120) = 20) ∧ ¬ (mstep P m num (nI l)).2.2.1 = -1) := by
  rcases (ok_step (num := num) (en := nI l) hP hm).2.2 with q | ⟨q1, q2⟩
  · exact Or.inl q
  · exact Or.inr ⟨q1, by rw [q2]; exact nI_m1 hl⟩
theorem rp_ok {P : Prg} {L : Lg} {n T : Nat} (h : okG P L n T) : ∀ t, t ≤ T → okR (rp P L n t).1 ∧ (rp P L n t).1 133 = nI t ∧ (rp P L n t).2 ≤ n
  | 0, _ => by
    have h1 := spk_ok h.2.1 (n - 0) zrow 0 rfl okR_0
    exact ⟨h1.1, (h1.2 133 (by omega)).trans rfl, (spk_le (L := L) (n := n) (n - 0) zrow 0 rfl (Nat.zero_le _)).2⟩
  | t + 1, ht => by
    obtain ⟨i1, i2, i3⟩ := rp_ok h t (by omega)
    have n8 := h.2.2.1
    show okR (nxt P L n (rp P L n t).1 (rp P L n t).2).1 ∧ (nxt P L n (rp P L n t).1 (rp P L n t).2).1 133 = nI (t + 1) ∧ (nxt P L n (rp P L n t).1 (rp P L n t).2).2 ≤ n
    unfold nxt
    have hs := ok_step (num := L.2.2.1 (rp P L n t).2) (en := nI (rp P L n t).2) h.1 i1
    have hl : (if (mstep P (rp P L n t).1 (L.2.2.1 (rp P L n t).2) (nI (rp P L n t).2)).2.2.1 = -1 then (rp P L n t).2 else (rp P L n t).2 + 1) ≤ n := by
      rcases nxt_l (num := L.2.2.1 (rp P L n t).2) h.1 i1 (show (rp P L n t).2 < 2 ^ 31 by omega) with q | ⟨q1, q2⟩
      · rw [if_pos q]; exact i3
      · rw [if_neg q2]; exact h.2.2.2.2 t (by omega) q1
    have h1 := spk_ok h.2.1 _ (mstep P (rp P L n t).1 (L.2.2.1 (rp P L n t).2) (nI (rp P L n t).2)).1 (if (mstep P (rp P L n t).1 (L.2.2.1 (rp P L n t).2) (nI (rp P L n t).2)).2.2.1 = -1 then (rp P L n t).2 else (rp P L n t).2 + 1) rfl hs.1
    exact ⟨h1.1, by rw [h1.2 133 (by omega), hs.2.1, i2, nI_1], (spk_le (L := L) (n := n) _ _ _ rfl hl).2⟩
theorem Pm_sX {u : rg_U} {r : Nat} {a b c sr sl : Int32} {m : Row} : Pm (sX u a b c sr sl m) r = Pm u r := by
  unfold Pm
  rw [sX_An (by decide), sX_An (by decide), sX_An (by decide), sX_An (by decide)]
theorem m_simStep {F r n T t : Nat} {a b c : Int32} {u : rg_U} (hr : r < 5) (hn : u.2.1 15 r = nI n) (hG : okG (Pm u r) (Lm u r) n T) (ht : t < T) (hF : 10000 < F) : ∃ a' b' c', g_X10_simStep F (sX u a b c (nI r) (nI (rp (Pm u r) (Lm u r) n t).2) (rp (Pm u r) (Lm u r) n t).1) = some (sX u a' b' c' (nI r) (nI (rp (Pm u r) (Lm u r) n (t + 1)).2) (rp (Pm u r) (Lm u r) n (t + 1)).1) := by
  obtain ⟨i1, i2, i3⟩ := rp_ok hG t (by omega)
  have n8 := hG.2.2.1
  have htake := hG.2.2.2.2 t ht
  show ∃ a' b' c', _ = some (sX u a' b' c' (nI r) (nI (nxt (Pm u r) (Lm u r) n (rp (Pm u r) (Lm u r) n t).1 (rp (Pm u r) (Lm u r) n t).2).2) (nxt (Pm u r) (Lm u r) n (rp (Pm u r) (Lm u r) n t).1 (rp (Pm u r) (Lm u r) n t).2).1)
  generalize (rp (Pm u r) (Lm u r) n t).1 = m at *
  generalize (rp (Pm u r) (Lm u r) n t).2 = l at *
  obtain ⟨⟨cn, hc1, hc2⟩, d, hd1, hd2, -⟩ := id i1
  unfold g_X10_simStep
  rw [sX_41, sX_42]
  have hst := m_steps (F := F) (o := 31) (r := r) (cn := cn) (d := d) (ee := l) (u := sX u a b c (nI r) (nI l) m) hr (by decide) (by rw [Pm_sX]; exact hG.1) (by rw [sX_A]; exact hc2) hc1 (by rw [sX_A]; exact hd2) hd1 (by rw [Pm_sX, ← hc2]; intro q; have := htake q; omega)
  rw [Pm_sX, sX_A, sX_An (show (12 : Nat) ≠ 31 by decide), sX_sT] at hst
  rw [hst, ob_i]
  have e12 : mstep (Pm u r) m (u.2.1 12 (800 * r + l)) (nI l) = mstep (Pm u r) m ((Lm u r).2.2.1 l) (nI l) := by
    by_cases q : kindOf (Pm u r) (m 120) = 19 ∨ kindOf (Pm u r) (m 120) = 20
    · have := htake q
      rw [show (Lm u r).2.2.1 l = u.2.1 12 (800 * r + l) from Lm_2 (by omega)]
    · exact step_num hG.1 i1 (fun z => q (Or.inl z)) (fun z => q (Or.inr z))
  rw [e12]
  unfold nxt
  have htk := nxt_l (num := (Lm u r).2.2.1 l) hG.1 i1 (show l < 2 ^ 31 by omega)
  generalize mstep (Pm u r) m ((Lm u r).2.2.1 l) (nI l) = z at *
  have e38 : rF (sX u z.2.1 z.2.2.1 z.2.2.2 (nI r) (nI l) z.1) 0 38 = z.2.2.1 := by
    show upd (upd (upd (upd (upd u.1 37 z.2.1) 38 z.2.2.1) 39 z.2.2.2) 41 (nI r)) 42 (nI l) 38 = _
    rw [pk_un (by decide), pk_un (by decide), pk_un (by decide), pk_us]
  rw [e38]
  unfold g_X10_simStep_j34 g_X10_simPokes
  rcases htk with q | ⟨q1, q2⟩
  · rw [if_pos q, if_pos q, m_simPokes hr hn n8 hG.2.1 (by omega) (n - l) l _ _ _ _ rfl i3 F (by omega)]
    exact ⟨_, _, _, rfl⟩
  · have hlt := htake q1
    rw [if_neg q2, if_neg q2, lt1_i, sX_42, nI_1, sX_s42, m_simPokes hr hn n8 hG.2.1 (by omega) (n - (l + 1)) (l + 1) _ _ _ _ rfl hlt F (by omega)]
    exact ⟨_, _, _, rfl⟩
theorem m_simBegins {F r n T : Nat} {u : rg_U} (hr : r < 5) (hn : u.2.1 15 r = nI n) (hG : okG (Pm u r) (Lm u r) n T) (hz : ∀ i, 134 ≤ i → u.2.1 31 i = 0) (hF : 10000 < F) : ∃ a b c, g_X10_simBegins F (nI r) u = some (sX u a b c (nI r) (nI (rp (Pm u r) (Lm u r) n 0).2) (rp (Pm u r) (Lm u r) n 0).1) := by
  unfold g_X10_simBegins
  rw [lt1_i, lt1_i]
  obtain ⟨v, e1, s1, h1⟩ := m_clears (F := F) (o := 31) (u := sF (sF u 0 41 (nI r)) 0 42 0) (by omega)
  rw [e1, ob_i]
  have ev : v = sX u (u.1 37) (u.1 38) (u.1 39) (nI r) (nI 0) zrow := by
    have e2 : v = (v.1, v.2.1, v.2.2) := rfl
    rw [e2, s1.1, s1.2]
    have e3 : v.2.1 = va_up u.2.1 31 zrow := by
      funext j i
      rw [h1 j i]
      unfold va_up
      by_cases q : j = 31
      · rw [if_pos q]
        by_cases q2 : i < 134
        · rw [if_pos ⟨q, q2⟩]; rfl
        · rw [if_neg (fun z => q2 z.2), q]
          show u.2.1 31 i = 0
          exact hz i (by omega)
      · rw [if_neg q, if_neg (fun z => q z.1)]; rfl
    rw [e3]
    have e4 : (sF (sF u 0 41 (nI r)) 0 42 0).1 = upd (upd (upd (upd (upd u.1 37 (u.1 37)) 38 (u.1 38)) 39 (u.1 39)) 41 (nI r)) 42 (nI 0) := by
      have h : ∀ k, upd u.1 k (u.1 k) = u.1 := fun k => by
        funext i
        unfold upd
        by_cases q : i = k
        · rw [if_pos q, q]
        · rw [if_neg q]
      rw [h, h, h]
      rfl
    rw [e4]
    rfl
  rw [ev]
  unfold g_X10_simPokes
  rw [m_simPokes hr hn hG.2.2.1 hG.2.1 (by omega) (n - 0) 0 _ _ _ _ rfl (Nat.zero_le _) F (by have := hG.2.2.1; omega)]
  exact ⟨_, _, _, rfl⟩
/-- sim, where it goes along with run r, has the state of some time of it -/
def okSim (u : rg_U) (r n T : Nat) : Prop := u.1 41 = nI r → ∃ s, s ≤ T ∧ u.2.1 31 = (rp (Pm u r) (Lm u r) n s).1 ∧ u.1 42 = nI (rp (Pm u r) (Lm u r) n s).2
theorem m_laysl {F r n T t : Nat} {u : rg_U} (hr : r < 5) (hn : u.2.1 15 r = nI n) (hG : okG (Pm u r) (Lm u r) n T) (ht : t ≤ T) (hF : 10000 < F) : ∀ (f s : Nat) (a b c : Int32), s + f = t → ∀ G, f < G → ∃ a' b' c', lp (fun (s : rg_U) => g_X10_lays_l25 F (nI t) s) G (sX u a b c (nI r) (nI (rp (Pm u r) (Lm u r) n s).2) (rp (Pm u r) (Lm u r) n s).1) = some (sX u a' b' c' (nI r) (nI (rp (Pm u r) (Lm u r) n t).2) (rp (Pm u r) (Lm u r) n t).1)
  | f, s, a, b, c, hf, G, hfG => by
    have hT := hG.2.2.2.1
    match G, hfG with
    | 0, hfG => omega
    | G + 1, hfG =>
    unfold lp g_X10_lays_l25
    have e133 : rA (sX u a b c (nI r) (nI (rp (Pm u r) (Lm u r) n s).2) (rp (Pm u r) (Lm u r) n s).1) 31 133 = nI s := (congrFun sX_A 133).trans (rp_ok hG s (by omega)).2.1
    rw [ck_t (by decide), e133]
    by_cases q : s = t
    · subst q
      rw [if_pos (nI_le (Nat.le_refl _) (by omega))]
      exact ⟨_, _, _, rfl⟩
    · rw [if_neg (nI_ge (by omega) (by omega))]
      obtain ⟨a', b', c', e1⟩ := m_simStep (a := a) (b := b) (c := c) hr hn hG (show s < T by omega) hF
      rw [e1, ob_i]
      match f, hf with
      | 0, hf => omega
      | f + 1, hf => exact m_laysl hr hn hG ht hF f (s + 1) a' b' c' (by omega) G (by omega)
theorem m_lays {F r n T t : Nat} {u : rg_U} (hr : r < 5) (hn : u.2.1 15 r = nI n) (hG : okG (Pm u r) (Lm u r) n T) (hz : ∀ i, 134 ≤ i → u.2.1 31 i = 0) (hS : okSim u r n T) (ht : t ≤ T) (hF : 10000 < F) : ∃ a b c, g_X10_lays F (nI r) (nI t) u = some (sX u a b c (nI r) (nI (rp (Pm u r) (Lm u r) n t).2) (rp (Pm u r) (Lm u r) n t).1) := by
  have hT := hG.2.2.2.1
  have anew : ∃ a b c, g_X10_lays_j20 F (nI r) (nI t) u = some (sX u a b c (nI r) (nI (rp (Pm u r) (Lm u r) n t).2) (rp (Pm u r) (Lm u r) n t).1) := by
    unfold g_X10_lays_j20 g_X10_lays_j25
    obtain ⟨a, b, c, e1⟩ := m_simBegins hr hn hG hz hF
    rw [e1, ob_i]
    obtain ⟨a', b', c', e2⟩ := m_laysl hr hn hG ht hF t 0 a b c (by omega) F (by omega)
    rw [e2]
    exact ⟨a', b', c', rfl⟩
  unfold g_X10_lays
  by_cases q : rF u 0 41 = nI r
  · rw [if_pos q, ck_t (by decide)]
    obtain ⟨s, hs, h1, h2⟩ := hS q
    have e133 : rA u 31 133 = nI s := by
      show u.2.1 31 133 = _
      rw [h1]
      exact (rp_ok hG s hs).2.1
    rw [e133]
    by_cases q2 : s ≤ t
    · rw [if_pos (nI_le q2 (by omega))]
      unfold g_X10_lays_j25
      obtain ⟨a', b', c', e2⟩ := m_laysl hr hn hG ht hF (t - s) s (u.1 37) (u.1 38) (u.1 39) (by omega) F (by omega)
      have eu : sX u (u.1 37) (u.1 38) (u.1 39) (nI r) (nI (rp (Pm u r) (Lm u r) n s).2) (rp (Pm u r) (Lm u r) n s).1 = u := by
        rw [← h1, ← h2, ← (show u.1 41 = nI r from q)]
        exact sX_id
      rw [eu] at e2
      rw [e2]
      exact ⟨a', b', c', rfl⟩
    · rw [if_neg (nI_ge (by omega) (by omega))]
      exact anew
  · rw [if_neg q]
    exact anew
/-! what a replay costs -/
def hk (H : Nat → Int32) : Nat → Nat
  | 0 => 0
  | k + 1 => if H (k + 1) = 0 then hk H k else k + 1
def Hm (u : rg_U) (r : Nat) : Nat → Int32 := ct 3001 (fun k => u.2.1 20 (3001 * r + k))
theorem Hm_k {u : rg_U} {r k : Nat} (h : k < 3001) : Hm u r k = u.2.1 20 (3001 * r + k) := by
  show ct 3001 (fun k => u.2.1 20 (3001 * r + k)) k = _
  rw [ct_lt h]
theorem hk_le (H : Nat → Int32) : ∀ k, hk H k ≤ k
  | 0 => Nat.le_refl _
  | k + 1 => by
    unfold hk
    by_cases q : H (k + 1) = 0
    · rw [if_pos q]; have := hk_le H k; omega
    · rw [if_neg q]; exact Nat.le_refl _
theorem nI_dec {k : Nat} : nI (k + 1) + (-1) = nI k := by
  rw [← nI_pred k, Int32.sub_eq_add_neg]
theorem m_heldByl {F r : Nat} {u : rg_U} (hr : r < 5) (h0 : ¬ Hm u r 0 = 0) : ∀ (k : Nat), k ≤ 3000 → ∀ G, k < G → lp (fun (s : Int32) => g_X10_heldBy_l9 F (nI r) u s) G (nI k) = some (nI (hk (Hm u r) k))
  | k, hk3, G, hG => by
    match G, hG with
    | 0, hG => omega
    | G + 1, hG =>
    unfold lp g_X10_heldBy_l9
    rw [heldAt_nI, ck_t (inb_nI (by omega) (by decide)), rA_nI (by omega)]
    match k, hk3, hG with
    | 0, hk3, hG =>
      rw [if_neg (show ¬ u.2.1 20 (3001 * r + 0) = 0 from fun z => h0 ((Hm_k (by decide)).trans z))]
      rfl
    | k + 1, hk3, hG =>
      show _ = some (nI (if Hm u r (k + 1) = 0 then hk (Hm u r) k else k + 1))
      by_cases q : Hm u r (k + 1) = 0
      · rw [if_pos (show u.2.1 20 (3001 * r + (k + 1)) = 0 from (Hm_k (show k + 1 < 3001 by omega)).symm.trans q), if_pos q, nI_dec]
        exact m_heldByl (F := F) hr h0 k (by omega) G (by omega)
      · rw [if_neg (show ¬ u.2.1 20 (3001 * r + (k + 1)) = 0 from fun z => q ((Hm_k (show k + 1 < 3001 by omega)).trans z)), if_neg q]
theorem m_heldBy {F r U t : Nat} {u : rg_U} (hr : r < 5) (h0 : ¬ Hm u r 0 = 0) (hU : u.2.1 23 r = nI U) (hU0 : 0 < U) (hU6 : U ≤ 64) (ht : t ≤ 3000) (hF : 10000 < F) : g_X10_heldBy F (nI r) (nI t) u = some (nI (hk (Hm u r) (t / U) * U)) := by
  have hd : t / U ≤ 3000 := Nat.le_trans (Nat.div_le_self t U) ht
  unfold g_X10_heldBy
  rw [ck_t (inb_nI hr (by decide)), rA_nI (by omega), hU, ck_t (nI_ne0 hU0 (by omega)), pk_div (by omega) hU0 (by omega), m_heldByl hr h0 (t / U) hd F (by omega), ob_i, ck_t (inb_nI hr (by decide)), pk_mul]
/-- x steps more are counted as replayed -/
def cS (u : rg_U) (r : Nat) (x : Int32) : rg_U := sF (rg_R u 25 r (u.2.1 25 r + x)) 0 35 (u.1 35 + x)
theorem cS_0 {u : rg_U} {r : Nat} : cS u r 0 = u := by
  unfold cS sF rg_F rg_R
  rw [Int32.add_zero, Int32.add_zero]
  have e1 : upd (u.2.1 25) r (u.2.1 25 r) = u.2.1 25 := by
    funext i
    unfold upd
    by_cases q : i = r
    · rw [if_pos q, q]
    · rw [if_neg q]
  have e2 : upd u.1 (100 * 0 + 35) (u.1 35) = u.1 := by
    funext i
    unfold upd
    by_cases q : i = 100 * 0 + 35
    · rw [if_pos q, q]
    · rw [if_neg q]
  dsimp only
  rw [e1, e2, va_same]
theorem m_counts {F r : Nat} {x : Int32} {u : rg_U} (hr : r < 5) : g_X10_counts F (nI r) x u = some (cS u r x) := by
  unfold g_X10_counts cS
  rw [ck_t (inb_nI hr (by decide)), ck_t (inb_nI hr (by decide)), lt1_i, lt1_i, rA_nI (by omega), sA_nI (by omega)]
  rfl
def rcost (H : Nat → Int32) (U T t : Nat) : Nat := if t = T then 0 else t - hk H (t / U) * U
end W_12
section W_13
-- 96.ext
/-! a log that grows, a log that is cut: the states of earlier times stay -/
def agL (L L' : Lg) (n : Nat) : Prop := ∀ k, k < n → L'.1 k = L.1 k ∧ L'.2.1 k = L.2.1 k ∧ L'.2.2.1 k = L.2.2.1 k ∧ L'.2.2.2.1 k = L.2.2.2.1 k ∧ L'.2.2.2.2 k = L.2.2.2.2 k
theorem agL_r {L : Lg} {n : Nat} : agL L L n := fun _ _ => ⟨rfl, rfl, rfl, rfl, rfl⟩
theorem spk_ext {L L' : Lg} {n n' : Nat} (hL : okL L n) (ha : agL L L' n) (hn : n ≤ n') : ∀ (f : Nat) (m : Row) (l : Nat), n - l = f → l ≤ n → (n < n' → ¬ (L'.2.1 n = 2 ∧ L'.1 n = m 133)) → spk L' n' m l = spk L n m l
  | f, m, l, hf, hl, hx => by
    by_cases q : l < n
    · obtain ⟨a1, a2, a3, a4, a5⟩ := ha l q
      by_cases q2 : L.2.1 l = 2 ∧ L.1 l = m 133
      · rw [spk_yes (L := L) ⟨q, q2⟩, spk_yes (L := L') (n := n') ⟨by omega, by rw [a2]; exact q2.1, by rw [a1]; exact q2.2⟩, a3, a4, a5]
        obtain ⟨p, hp, ep⟩ := hL l q q2.1
        match f, hf with
        | 0, hf => omega
        | f + 1, hf =>
          refine spk_ext hL ha hn f _ (l + 1) (by omega) (by omega) (fun h => ?_)
          rw [mput_hi (by rw [ep, tnn (by omega)]; exact hp) (by omega)]
          exact hx h
      · rw [spk_no (L := L) (fun z => q2 z.2), spk_no (L := L') (fun z => q2 ⟨by rw [← a2]; exact z.2.1, by rw [← a1]; exact z.2.2⟩)]
    · have e : l = n := by omega
      subst e
      rw [spk_no (L := L) (fun z => q z.1), spk_no (L := L') (fun z => hx z.1 z.2)]
theorem rp_ext {P : Prg} {L L' : Lg} {n n' T : Nat} (h : okG P L n T) (ha : agL L L' n) (hn : n ≤ n') {t0 : Nat} (ht : t0 ≤ T) (hx : n < n' → ∀ t, t ≤ t0 → ¬ (L'.2.1 n = 2 ∧ L'.1 n = nI t)) : ∀ t, t ≤ t0 → rp P L' n' t = rp P L n t
  | 0, h0 => spk_ext h.2.1 ha hn _ zrow 0 rfl (Nat.zero_le _) (fun q => hx q 0 h0)
  | t + 1, h1 => by
    show nxt P L' n' (rp P L' n' t).1 (rp P L' n' t).2 = nxt P L n (rp P L n t).1 (rp P L n t).2
    rw [rp_ext h ha hn ht hx t (by omega)]
    obtain ⟨i1, i2, i3⟩ := rp_ok h t (by omega)
    have n8 := h.2.2.1
    have htake := h.2.2.2.2 t (by omega)
    have e1 : mstep P (rp P L n t).1 (L'.2.2.1 (rp P L n t).2) (nI (rp P L n t).2) = mstep P (rp P L n t).1 (L.2.2.1 (rp P L n t).2) (nI (rp P L n t).2) := by
      by_cases q : kindOf P ((rp P L n t).1 120) = 19 ∨ kindOf P ((rp P L n t).1 120) = 20
      · rw [(ha _ (htake q)).2.2.1]
      · exact step_num h.1 i1 (fun z => q (Or.inl z)) (fun z => q (Or.inr z))
    unfold nxt
    rw [e1]
    have hs := ok_step (num := L.2.2.1 (rp P L n t).2) (en := nI (rp P L n t).2) h.1 i1
    have hl : (if (mstep P (rp P L n t).1 (L.2.2.1 (rp P L n t).2) (nI (rp P L n t).2)).2.2.1 = -1 then (rp P L n t).2 else (rp P L n t).2 + 1) ≤ n := by
      rcases nxt_l (num := L.2.2.1 (rp P L n t).2) h.1 i1 (show (rp P L n t).2 < 2 ^ 31 by omega) with q | ⟨q1, q2⟩
      · rw [if_pos q]; exact i3
      · rw [if_neg q2]; exact htake q1
    refine spk_ext h.2.1 ha hn _ _ _ rfl hl (fun q => ?_)
    rw [hs.2.1, i2, nI_1]
    exact hx q (t + 1) h1
theorem spk_trunc {L : Lg} {n n' : Nat} (hn : n' ≤ n) : ∀ (f : Nat) (m : Row) (l : Nat), n - l = f → l ≤ n → (spk L n m l).2 ≤ n' → spk L n' m l = spk L n m l
  | f, m, l, hf, hl, hx => by
    by_cases q : l < n ∧ L.2.1 l = 2 ∧ L.1 l = m 133
    · rw [spk_yes q] at hx ⊢
      match f, hf with
      | 0, hf => omega
      | f + 1, hf =>
        have h1 := (spk_le (L := L) (n := n) f (mput m (tn (L.2.2.2.1 l)) (L.2.2.2.2 l) (L.2.2.1 l)) (l + 1) (by omega) (by omega)).1
        rw [spk_yes (n := n') ⟨by omega, q.2⟩]
        exact spk_trunc hn f _ (l + 1) (by omega) (by omega) hx
    · rw [spk_no q] at hx ⊢
      rw [spk_no (fun z => q ⟨by omega, z.2⟩)]
theorem nxt_le {P : Prg} {L : Lg} {n T t : Nat} (h : okG P L n T) (ht : t < T) : (rp P L n t).2 ≤ (rp P L n (t + 1)).2 := by
  obtain ⟨i1, i2, i3⟩ := rp_ok h t (by omega)
  have n8 := h.2.2.1
  show _ ≤ (nxt P L n (rp P L n t).1 (rp P L n t).2).2
  unfold nxt
  rcases nxt_l (num := L.2.2.1 (rp P L n t).2) h.1 i1 (show (rp P L n t).2 < 2 ^ 31 by omega) with q | ⟨q1, q2⟩
  · rw [if_pos q]
    exact (spk_le (L := L) (n := n) _ _ _ rfl i3).1
  · rw [if_neg q2]
    have := (spk_le (L := L) (n := n) _ (mstep P (rp P L n t).1 (L.2.2.1 (rp P L n t).2) (nI (rp P L n t).2)).1 ((rp P L n t).2 + 1) rfl (h.2.2.2.2 t ht q1)).1
    omega
theorem rp_mono {P : Prg} {L : Lg} {n T : Nat} (h : okG P L n T) {t : Nat} : ∀ s, t + s ≤ T → (rp P L n t).2 ≤ (rp P L n (t + s)).2
  | 0, _ => Nat.le_refl _
  | s + 1, hs => Nat.le_trans (rp_mono h s (by omega)) (nxt_le h (by omega))
theorem rp_trunc {P : Prg} {L : Lg} {n T t0 : Nat} (h : okG P L n T) (h0 : t0 ≤ T) : ∀ t, t ≤ t0 → rp P L (rp P L n t0).2 t = rp P L n t
  | 0, ht => by
    have n3 := (rp_ok h t0 h0).2.2
    have hm := rp_mono h (t := 0) t0 (by omega)
    rw [Nat.zero_add] at hm
    exact spk_trunc n3 _ zrow 0 rfl (Nat.zero_le _) hm
  | t + 1, ht => by
    show nxt P L _ (rp P L _ t).1 (rp P L _ t).2 = nxt P L n (rp P L n t).1 (rp P L n t).2
    rw [rp_trunc h h0 t (by omega)]
    obtain ⟨i1, i2, i3⟩ := rp_ok h t (by omega)
    have n8 := h.2.2.1
    have n3 := (rp_ok h t0 h0).2.2
    have hm := rp_mono h (t := t + 1) (t0 - (t + 1)) (by omega)
    rw [show t + 1 + (t0 - (t + 1)) = t0 by omega] at hm
    have hm2 : (nxt P L n (rp P L n t).1 (rp P L n t).2).2 ≤ (rp P L n t0).2 := hm
    unfold nxt at hm2 ⊢
    have hl : (if (mstep P (rp P L n t).1 (L.2.2.1 (rp P L n t).2) (nI (rp P L n t).2)).2.2.1 = -1 then (rp P L n t).2 else (rp P L n t).2 + 1) ≤ n := by
      rcases nxt_l (num := L.2.2.1 (rp P L n t).2) h.1 i1 (show (rp P L n t).2 < 2 ^ 31 by omega) with q | ⟨q1, q2⟩
      · rw [if_pos q]; exact i3
      · rw [if_neg q2]; exact h.2.2.2.2 t (by omega) q1
    exact spk_trunc n3 _ _ _ rfl hl hm2
/-- the log's order: entry k belongs to the states of times above its own (a poke: from its own on) -/
def okO (P : Prg) (L : Lg) (n T : Nat) : Prop := ∀ k, k < n → ∃ q, q ≤ T ∧ L.1 k = nI q ∧ ∀ t, t ≤ T → (k < (rp P L n t).2 ↔ q < t + (if L.2.1 k = 2 then 1 else 0))
/-- all that holds of a run: program, log of n entries, time T -/
def okW (P : Prg) (L : Lg) (n T : Nat) : Prop := okG P L n T ∧ okO P L n T ∧ (rp P L n T).2 = n ∧ ∀ t, t < T → (rp P L n t).1 132 = 0
theorem okW_cut {P : Prg} {L : Lg} {n T t0 : Nat} (h : okW P L n T) (h0 : t0 ≤ T) : okW P L (rp P L n t0).2 t0 := by
  have n3 := (rp_ok h.1 t0 h0).2.2
  have hn8 := h.1.2.2.1
  have hT := h.1.2.2.2.1
  refine ⟨⟨h.1.1, fun k hk => h.1.2.1 k (by omega), by omega, by omega, fun t ht q => ?_⟩, fun k hk => ?_, by rw [rp_trunc h.1 h0 t0 (Nat.le_refl _)], fun t ht => by rw [rp_trunc h.1 h0 t (by omega)]; exact h.2.2.2 t (by omega)⟩
  · rw [rp_trunc h.1 h0 t (by omega)] at q ⊢
    have hlt := h.1.2.2.2.2 t (by omega) q
    have i := rp_ok h.1 t (by omega)
    -- the step at t takes entry (rp t).2, so it lies below that of t + 1, which is at most that of t0
    have hm := rp_mono h.1 (t := t + 1) (t0 - (t + 1)) (by omega)
    rw [show t + 1 + (t0 - (t + 1)) = t0 by omega] at hm
    have hs : (rp P L n t).2 < (rp P L n (t + 1)).2 := by
      obtain ⟨qq, hq1, hq2, hq3⟩ := h.2.1 (rp P L n t).2 hlt
      have a1 := (hq3 t (by omega))
      have a2 := (hq3 (t + 1) (by omega))
      show (rp P L n t).2 < (nxt P L n (rp P L n t).1 (rp P L n t).2).2
      unfold nxt
      rcases nxt_l (num := L.2.2.1 (rp P L n t).2) h.1.1 i.1 (show (rp P L n t).2 < 2 ^ 31 by omega) with z | ⟨z1, z2⟩
      · exfalso
        have : (mstep P (rp P L n t).1 (L.2.2.1 (rp P L n t).2) (nI (rp P L n t).2)).2.2.1 = nI (rp P L n t).2 := by
          exact step_take q
        rw [this] at z
        exact nI_m1 (by omega) z
      · rw [if_neg z2]
        have := (spk_le (L := L) (n := n) _ (mstep P (rp P L n t).1 (L.2.2.1 (rp P L n t).2) (nI (rp P L n t).2)).1 ((rp P L n t).2 + 1) rfl (by omega)).1
        omega
    omega
  · obtain ⟨qq, hq1, hq2, hq3⟩ := h.2.1 k (by omega)
    refine ⟨qq, ?_, hq2, fun t ht => ?_⟩
    · have := (hq3 t0 h0).mp hk
      by_cases z : L.2.1 k = 2
      · rw [if_pos z] at this; omega
      · rw [if_neg z] at this; omega
    · rw [rp_trunc h.1 h0 t ht]
      exact hq3 t (by omega)
end W_13
section W_14
-- 96b.grow
/-! a run grows: by a poke, by a step -/
theorem spk_more {L L' : Lg} {n : Nat} (hL : okL L n) (ha : agL L L' n) : ∀ (f : Nat) (m : Row) (l : Nat), n - l = f → l ≤ n → (spk L n m l).2 = n → L'.2.1 n = 2 → L'.1 n = m 133 → spk L' (n + 1) m l = (mput (spk L n m l).1 (tn (L'.2.2.2.1 n)) (L'.2.2.2.2 n) (L'.2.2.1 n), n + 1)
  | f, m, l, hf, hl, he, h1, h2 => by
    by_cases q : l < n
    · obtain ⟨a1, a2, a3, a4, a5⟩ := ha l q
      by_cases q2 : L.2.1 l = 2 ∧ L.1 l = m 133
      · rw [spk_yes (L := L) ⟨q, q2⟩] at he ⊢
        rw [spk_yes (L := L') (n := n + 1) ⟨by omega, by rw [a2]; exact q2.1, by rw [a1]; exact q2.2⟩, a3, a4, a5]
        obtain ⟨p, hp, ep⟩ := hL l q q2.1
        match f, hf with
        | 0, hf => omega
        | f + 1, hf =>
          refine spk_more hL ha f _ (l + 1) (by omega) (by omega) he h1 ?_
          rw [mput_hi (by rw [ep, tnn (by omega)]; exact hp) (by omega)]
          exact h2
      · rw [spk_no (L := L) (fun z => q2 z.2)] at he
        exact absurd he (by dsimp only; omega)
    · have e : l = n := by omega
      subst e
      rw [spk_no (L := L) (fun z => q z.1), spk_yes (L := L') (n := l + 1) ⟨by omega, h1, h2⟩, spk_no (fun z => absurd z.1 (by omega))]
theorem nI_inj {a b : Nat} (ha : a < 2 ^ 31) (hb : b < 2 ^ 31) (h : nI a = nI b) : a = b := (nI_eq ha hb).mp h
theorem poke_rp {P : Prg} {L L' : Lg} {n T : Nat} (h : okW P L n T) (ha : agL L L' n) (h1 : L'.2.1 n = 2) (h2 : L'.1 n = nI T) : (∀ t, t < T → rp P L' (n + 1) t = rp P L n t) ∧ rp P L' (n + 1) T = (mput (rp P L n T).1 (tn (L'.2.2.2.1 n)) (L'.2.2.2.2 n) (L'.2.2.1 n), n + 1) := by
  have hT := h.1.2.2.2.1
  have hlt : ∀ t, t < T → rp P L' (n + 1) t = rp P L n t := fun t ht => rp_ext h.1 ha (Nat.le_succ n) (t0 := T - 1) (by omega) (fun _ s hs q => by
    have := nI_inj (by omega) (by omega) (h2.symm.trans q.2)
    omega) t (by omega)
  refine ⟨hlt, ?_⟩
  have hend := h.2.2.1
  have htime := (rp_ok h.1 T (Nat.le_refl _)).2.1
  match T, h, hT, hlt, h2, hend, htime with
  | 0, h, hT, hlt, h2, hend, htime =>
    exact spk_more h.1.2.1 ha _ zrow 0 rfl (Nat.zero_le _) hend h1 h2
  | T + 1, h, hT, hlt, h2, hend, htime =>
    show nxt P L' (n + 1) (rp P L' (n + 1) T).1 (rp P L' (n + 1) T).2 = _
    rw [hlt T (by omega)]
    obtain ⟨i1, i2, i3⟩ := rp_ok h.1 T (by omega)
    have n8 := h.1.2.2.1
    have htake := h.1.2.2.2.2 T (by omega)
    have e1 : mstep P (rp P L n T).1 (L'.2.2.1 (rp P L n T).2) (nI (rp P L n T).2) = mstep P (rp P L n T).1 (L.2.2.1 (rp P L n T).2) (nI (rp P L n T).2) := by
      by_cases q : kindOf P ((rp P L n T).1 120) = 19 ∨ kindOf P ((rp P L n T).1 120) = 20
      · rw [(ha _ (htake q)).2.2.1]
      · exact step_num h.1.1 i1 (fun z => q (Or.inl z)) (fun z => q (Or.inr z))
    have hs := ok_step (num := L.2.2.1 (rp P L n T).2) (en := nI (rp P L n T).2) h.1.1 i1
    have hl : (if (mstep P (rp P L n T).1 (L.2.2.1 (rp P L n T).2) (nI (rp P L n T).2)).2.2.1 = -1 then (rp P L n T).2 else (rp P L n T).2 + 1) ≤ n := by
      rcases nxt_l (num := L.2.2.1 (rp P L n T).2) h.1.1 i1 (show (rp P L n T).2 < 2 ^ 31 by omega) with q | ⟨q1, q2⟩
      · rw [if_pos q]; exact i3
      · rw [if_neg q2]; exact htake q1
    have hend2 : (nxt P L n (rp P L n T).1 (rp P L n T).2).2 = n := hend
    show nxt P L' (n + 1) (rp P L n T).1 (rp P L n T).2 = (mput (nxt P L n (rp P L n T).1 (rp P L n T).2).1 (tn (L'.2.2.2.1 n)) (L'.2.2.2.2 n) (L'.2.2.1 n), n + 1)
    unfold nxt at hend2 ⊢
    rw [e1]
    exact spk_more h.1.2.1 ha _ _ _ rfl hl hend2 h1 (by rw [hs.2.1, i2, nI_1]; exact h2)
theorem okW_poke {P : Prg} {L L' : Lg} {n T p : Nat} (h : okW P L n T) (ha : agL L L' n) (hn : n < 800) (h1 : L'.2.1 n = 2) (h2 : L'.1 n = nI T) (hp : p < 40) (h3 : L'.2.2.2.1 n = nI p) : okW P L' (n + 1) T := by
  obtain ⟨hlt, hT⟩ := poke_rp h ha h1 h2
  have hT3 := h.1.2.2.2.1
  refine ⟨⟨h.1.1, fun k hk q => ?_, by omega, hT3, fun t ht q => ?_⟩, fun k hk => ?_, by rw [hT], fun t ht => by rw [hlt t ht]; exact h.2.2.2 t ht⟩
  · by_cases z : k < n
    · rw [(ha k z).2.2.2.1]
      exact h.1.2.1 k z (by rw [← (ha k z).2.1]; exact q)
    · have : k = n := by omega
      subst this
      exact ⟨p, hp, h3⟩
  · rw [hlt t ht] at q ⊢
    exact Nat.lt_succ_of_lt (h.1.2.2.2.2 t ht q)
  · by_cases z : k < n
    · obtain ⟨qq, c1, c2, c3⟩ := h.2.1 k z
      refine ⟨qq, c1, by rw [(ha k z).1]; exact c2, fun t ht => ?_⟩
      rw [(ha k z).2.1]
      by_cases y : t < T
      · rw [hlt t y]; exact c3 t ht
      · have e : t = T := by omega
        subst e
        have c4 := c3 t ht
        rw [h.2.2.1] at c4
        rw [hT]
        dsimp only
        exact ⟨fun _ => c4.mp z, fun _ => by omega⟩
    · have e : k = n := by omega
      subst e
      refine ⟨T, Nat.le_refl _, h2, fun t ht => ?_⟩
      rw [if_pos h1]
      by_cases y : t < T
      · rw [hlt t y]
        have := (rp_ok h.1 t ht).2.2
        exact ⟨fun q => by omega, fun q => by omega⟩
      · have e : t = T := by omega
        subst e
        rw [hT]
        dsimp only
        exact ⟨fun _ => by omega, fun _ => by omega⟩
/-- whether a step takes something from outside -/
def tk (P : Prg) (m : Row) : Prop := kindOf P (m 120) = 19 ∨ kindOf P (m 120) = 20
theorem step_rp {P : Prg} {L L' : Lg} {n n' T : Nat} (h : okW P L n T) (ha : agL L L' n) (hy : tk P (rp P L n T).1 → n' = n + 1 ∧ ¬ L'.2.1 n = 2) (hno : ¬ tk P (rp P L n T).1 → n' = n) : (∀ t, t ≤ T → rp P L' n' t = rp P L n t) ∧ rp P L' n' (T + 1) = ((mstep P (rp P L n T).1 (L'.2.2.1 n) (nI n)).1, n') := by
  have hn : n ≤ n' := by
    by_cases q : tk P (rp P L n T).1
    · have := (hy q).1; omega
    · have := hno q; omega
  have hle : ∀ t, t ≤ T → rp P L' n' t = rp P L n t := rp_ext h.1 ha hn (Nat.le_refl T) (fun z t ht q => by
    by_cases y : tk P (rp P L n T).1
    · exact (hy y).2 q.1
    · have := hno y; omega)
  refine ⟨hle, ?_⟩
  obtain ⟨i1, i2, i3⟩ := rp_ok h.1 T (Nat.le_refl _)
  have n8 := h.1.2.2.1
  show nxt P L' n' (rp P L' n' T).1 (rp P L' n' T).2 = _
  rw [hle T (Nat.le_refl _), h.2.2.1]
  unfold nxt
  by_cases q : tk P (rp P L n T).1
  · rw [step_take q, if_neg (nI_m1 (by omega)), spk_no (fun z => absurd z.1 (by have := (hy q).1; omega)), (hy q).1]
  · have e : (mstep P (rp P L n T).1 (L'.2.2.1 n) (nI n)).2.2.1 = -1 := by
      rcases (ok_step (num := L'.2.2.1 n) (en := nI n) h.1.1 i1).2.2 with z | ⟨z, -⟩
      · exact z
      · exact absurd z q
    rw [if_pos e, spk_no (fun z => absurd z.1 (by have := hno q; omega)), hno q]
theorem okW_step {P : Prg} {L L' : Lg} {n n' T : Nat} (h : okW P L n T) (ha : agL L L' n) (hy : tk P (rp P L n T).1 → n' = n + 1 ∧ ¬ L'.2.1 n = 2 ∧ L'.1 n = nI T ∧ n < 800) (hno : ¬ tk P (rp P L n T).1 → n' = n) (hT : T < 3000) (hlive : (rp P L n T).1 132 = 0) : okW P L' n' (T + 1) := by
  obtain ⟨hle, hS⟩ := step_rp h ha (fun q => ⟨(hy q).1, (hy q).2.1⟩) hno
  have hn8 := h.1.2.2.1
  have hn : n ≤ n' ∧ n' ≤ n + 1 := by
    by_cases q : tk P (rp P L n T).1
    · have := (hy q).1; omega
    · have := hno q; omega
  refine ⟨⟨h.1.1, fun k hk q => ?_, ?_, by omega, fun t ht q => ?_⟩, fun k hk => ?_, by rw [hS], fun t ht => ?_⟩
  · by_cases z : k < n
    · rw [(ha k z).2.2.2.1]
      exact h.1.2.1 k z (by rw [← (ha k z).2.1]; exact q)
    · by_cases y : tk P (rp P L n T).1
      · have : k = n := by have := (hy y).1; omega
        subst this
        exact absurd q (hy y).2.1
      · have := hno y; omega
  · by_cases y : tk P (rp P L n T).1
    · have := hy y; omega
    · have := hno y; omega
  · rw [hle t (by omega)] at q ⊢
    by_cases z : t < T
    · have := h.1.2.2.2.2 t z q; omega
    · have e : t = T := by omega
      subst e
      have := (hy q).1
      rw [h.2.2.1]
      omega
  · by_cases z : k < n
    · obtain ⟨qq, c1, c2, c3⟩ := h.2.1 k z
      refine ⟨qq, by omega, by rw [(ha k z).1]; exact c2, fun t ht => ?_⟩
      rw [(ha k z).2.1]
      by_cases y : t ≤ T
      · rw [hle t y]; exact c3 t y
      · have e : t = T + 1 := by omega
        subst e
        rw [hS]
        dsimp only
        exact ⟨fun _ => by omega, fun _ => by omega⟩
    · by_cases y : tk P (rp P L n T).1
      · obtain ⟨y1, y2, y3, y4⟩ := hy y
        have e : k = n := by omega
        subst e
        refine ⟨T, by omega, y3, fun t ht => ?_⟩
        rw [if_neg y2]
        by_cases x : t ≤ T
        · rw [hle t x]
          have := (rp_ok h.1 t x).2.2
          exact ⟨fun q => by omega, fun q => by omega⟩
        · have e : t = T + 1 := by omega
          subst e
          rw [hS]
          dsimp only
          exact ⟨fun _ => by omega, fun _ => by omega⟩
      · have := hno y; omega
  · rw [hle t (by omega)]
    by_cases z : t < T
    · exact h.2.2.2 t z
    · have e : t = T := by omega
      subst e
      exact hlive
theorem okW_new {P : Prg} {L : Lg} (hP : okP P) : okW P L 0 0 ∧ rp P L 0 0 = (zrow, 0) := by
  have e : rp P L 0 0 = (zrow, 0) := spk_no (fun z => absurd z.1 (by omega))
  refine ⟨⟨⟨hP, fun k hk => by omega, by omega, by omega, fun t ht => by omega⟩, fun k hk => by omega, by rw [e], fun t ht => by omega⟩, e⟩
end W_14
section W_15
-- 97.core
/-! WHAT HOLDS OF THE REFERENCE -/
def nr (u : rg_U) (r : Nat) : Nat := tn (u.2.1 15 r)
def Tr (u : rg_U) (r : Nat) : Nat := tn (u.2.1 21 r)
def Ur (u : rg_U) (r : Nat) : Nat := tn (u.2.1 23 r)
def Dr (u : rg_U) (r : Nat) : Nat := tn (u.2.1 24 r)
def Cr (u : rg_U) (r : Nat) : Nat := tn (u.2.1 19 r)
/-- the states of run r -/
def rpm (u : rg_U) (r t : Nat) : Row × Nat := rp (Pm u r) (Lm u r) (nr u r) t
def okH (H : Nat → Int32) (U T : Nat) : Prop := H 0 = 1 ∧ ∀ k, k ≤ 3000 → H k = 0 ∨ (H k = 1 ∧ k * U ≤ T)
def okC (A : Nat → Int32) (T C : Nat) : Prop := C ≤ 100 ∧ ∃ ct : Nat → Nat, (∀ i, i < C → A i = nI (ct i) ∧ ct i < T) ∧ ∀ i j, i < j → j < C → ct i < ct j
def runOK (u : rg_U) (r : Nat) : Prop := u.2.1 15 r = nI (nr u r) ∧ u.2.1 21 r = nI (Tr u r) ∧ u.2.1 23 r = nI (Ur u r) ∧ u.2.1 24 r = nI (Dr u r) ∧ u.2.1 19 r = nI (Cr u r) ∧ (0 < Ur u r ∧ Ur u r ≤ 64 ∧ 0 < Dr u r ∧ Dr u r ≤ 8) ∧ okW (Pm u r) (Lm u r) (nr u r) (Tr u r) ∧ okH (Hm u r) (Ur u r) (Tr u r) ∧ okC (fun i => u.2.1 16 (100 * r + i)) (Tr u r) (Cr u r)
def act (u : rg_U) (K r : Nat) : Prop := r < K ∨ (r = 4 ∧ u.2.1 5 4 = 1)
def cI (L : Lg) : Nat → Nat
  | 0 => 0
  | k + 1 => cI L k + (if L.2.1 k = 0 then 1 else 0)
def coreM (u : rg_U) (K W : Nat) : Prop :=
  (u.1 29 = nI K ∧ K ≤ 4 ∧ (u.1 30 = -1 ∨ ∃ r, r < K ∧ u.1 30 = nI r)) ∧
  ((u.2.1 5 4 = 0 ∨ u.2.1 5 4 = 1) ∧ (0 < K → u.2.1 5 4 = 1) ∧ ∀ r, r < K → u.2.1 5 r = 1) ∧
  okP (u.2.1 1, u.2.1 2, u.2.1 3, u.2.1 4) ∧
  (∃ U D, u.1 4 = nI U ∧ u.1 5 = nI D ∧ 0 < U ∧ U ≤ 64 ∧ 0 < D ∧ D ≤ 8) ∧
  (∀ r, act u K r → runOK u r) ∧
  (u.2.1 5 4 = 1 → u.2.1 28 = (rpm u 4 (Tr u 4)).1) ∧
  (u.1 33 = nI W ∧ W ≤ 900 ∧ (u.2.1 5 4 = 1 → W + cI (Lm u 4) (nr u 4) ≤ 900)) ∧
  ∀ p, p < 40 → u.2.1 30 p = 0 ∨ u.2.1 30 p = 1
def simM (u : rg_U) (K : Nat) : Prop := (u.1 41 = -1 ∨ ∃ r, act u K r ∧ u.1 41 = nI r) ∧ (∀ r, act u K r → okSim u r (nr u r) (Tr u r)) ∧ (∀ i, 134 ≤ i → u.2.1 28 i = 0) ∧ (∀ i, 134 ≤ i → u.2.1 31 i = 0) ∧ ∀ i, 134 ≤ i → u.2.1 37 i = 0
/-- nothing but what goes along and lies aside is other -/
def coreEq (u u' : rg_U) : Prop := (∀ j, j ≤ 30 → u'.2.1 j = u.2.1 j) ∧ ∀ k, k ≤ 36 → u'.1 k = u.1 k
theorem coreEq_r {u : rg_U} : coreEq u u := ⟨fun _ _ => rfl, fun _ _ => rfl⟩
theorem coreEq_t {u v w : rg_U} (h : coreEq u v) (h2 : coreEq v w) : coreEq u w := ⟨fun j hj => (h2.1 j hj).trans (h.1 j hj), fun k hk => (h2.2 k hk).trans (h.2 k hk)⟩
theorem coreEq_sX {u : rg_U} {a b c sr sl : Int32} {m : Row} : coreEq u (sX u a b c sr sl m) := ⟨fun j hj => sX_An (by omega), fun k hk => sX_n (by omega)⟩
theorem Pm_c {u u' : rg_U} {r : Nat} (h : ∀ j, j ≤ 30 → u'.2.1 j = u.2.1 j) : Pm u' r = Pm u r := by
  unfold Pm
  rw [h 6 (by decide), h 7 (by decide), h 8 (by decide), h 9 (by decide)]
theorem Lm_c {u u' : rg_U} {r : Nat} (h : ∀ j, j ≤ 30 → u'.2.1 j = u.2.1 j) : Lm u' r = Lm u r := by
  unfold Lm
  rw [h 10 (by decide), h 11 (by decide), h 12 (by decide), h 13 (by decide), h 14 (by decide)]
theorem nr_c {u u' : rg_U} {r : Nat} (h : ∀ j, j ≤ 30 → u'.2.1 j = u.2.1 j) : nr u' r = nr u r := by
  unfold nr
  rw [h 15 (by decide)]
theorem Tr_c {u u' : rg_U} {r : Nat} (h : ∀ j, j ≤ 30 → u'.2.1 j = u.2.1 j) : Tr u' r = Tr u r := by
  unfold Tr
  rw [h 21 (by decide)]
theorem rpm_c {u u' : rg_U} {r t : Nat} (h : ∀ j, j ≤ 30 → u'.2.1 j = u.2.1 j) : rpm u' r t = rpm u r t := by
  unfold rpm
  rw [Pm_c h, Lm_c h, nr_c h]
theorem act_c {u u' : rg_U} {K r : Nat} (h : ∀ j, j ≤ 30 → u'.2.1 j = u.2.1 j) : act u' K r ↔ act u K r := by
  unfold act
  rw [h 5 (by decide)]
theorem runOK_c {u u' : rg_U} {r : Nat} (h : ∀ j, j ≤ 30 → j ≠ 25 → u'.2.1 j = u.2.1 j) (hr : runOK u r) : runOK u' r := by
  have e1 : Pm u' r = Pm u r := by
    unfold Pm
    rw [h 6 (by decide) (by decide), h 7 (by decide) (by decide), h 8 (by decide) (by decide), h 9 (by decide) (by decide)]
  have e2 : Lm u' r = Lm u r := by
    unfold Lm
    rw [h 10 (by decide) (by decide), h 11 (by decide) (by decide), h 12 (by decide) (by decide), h 13 (by decide) (by decide), h 14 (by decide) (by decide)]
  have e3 : Hm u' r = Hm u r := by
    unfold Hm
    rw [h 20 (by decide) (by decide)]
  unfold runOK nr Tr Ur Dr Cr at *
  rw [e1, e2, e3, h 15 (by decide) (by decide), h 16 (by decide) (by decide), h 19 (by decide) (by decide), h 21 (by decide) (by decide), h 23 (by decide) (by decide), h 24 (by decide) (by decide)]
  exact hr
/-- core facts don't ask for what is counted as replayed, nor for X, nor for the latest count -/
theorem core_c {u u' : rg_U} {K W : Nat} (h : ∀ j, j ≤ 30 → j ≠ 25 → u'.2.1 j = u.2.1 j) (hf : ∀ k, k ≤ 33 → u'.1 k = u.1 k) (hc : coreM u K W) : coreM u' K W := by
  obtain ⟨⟨c1, c2, c3⟩, ⟨c4, c5, c6⟩, c7, c8, c9, c10, ⟨c11, c12, c13⟩, c14⟩ := hc
  have e1 : Pm u' 4 = Pm u 4 := by
    unfold Pm
    rw [h 6 (by decide) (by decide), h 7 (by decide) (by decide), h 8 (by decide) (by decide), h 9 (by decide) (by decide)]
  have e2 : Lm u' 4 = Lm u 4 := by
    unfold Lm
    rw [h 10 (by decide) (by decide), h 11 (by decide) (by decide), h 12 (by decide) (by decide), h 13 (by decide) (by decide), h 14 (by decide) (by decide)]
  have a5 := h 5 (by decide) (by decide)
  refine ⟨⟨by rw [hf 29 (by decide)]; exact c1, c2, by rw [hf 30 (by decide)]; exact c3⟩, ⟨by rw [a5]; exact c4, by rw [a5]; exact c5, by rw [a5]; exact c6⟩, by rw [h 1 (by decide) (by decide), h 2 (by decide) (by decide), h 3 (by decide) (by decide), h 4 (by decide) (by decide)]; exact c7, by rw [hf 4 (by decide), hf 5 (by decide)]; exact c8, fun r hr => runOK_c h (c9 r (by unfold act at hr ⊢; rw [← a5]; exact hr)), ?_, ⟨by rw [hf 33 (by decide)]; exact c11, c12, ?_⟩, by rw [h 30 (by decide) (by decide)]; exact c14⟩
  · unfold rpm nr Tr at *
    rw [a5, h 28 (by decide) (by decide), e1, e2, h 15 (by decide) (by decide), h 21 (by decide) (by decide)]
    exact c10
  · unfold nr at *
    rw [a5, e2, h 15 (by decide) (by decide)]
    exact c13
theorem core_eq {u u' : rg_U} {K W : Nat} (h : coreEq u u') (hc : coreM u K W) : coreM u' K W := core_c (fun j hj _ => h.1 j hj) (fun k hk => h.2 k (by omega)) hc
theorem core_cS {u : rg_U} {K W r : Nat} {x : Int32} (hc : coreM u K W) : coreM (cS u r x) K W := core_c (fun j _ h25 => by
  show va_up u.2.1 25 _ j = _
  exact pm_up_n h25) (fun k hk => by
  show upd u.1 35 _ k = _
  exact pk_un (by omega)) hc
theorem act5 {u : rg_U} {K r : Nat} (hK : K ≤ 4) (h : act u K r) : r < 5 := by
  rcases h with h | ⟨h, -⟩ <;> omega
/-- the row of run r at t lies in sim -/
theorem simM_lay {u : rg_U} {K W r t : Nat} {a b c : Int32} (hc : coreM u K W) (hs : simM u K) (hr : act u K r) (ht : t ≤ Tr u r) : simM (sX u a b c (nI r) (nI (rpm u r t).2) (rpm u r t).1) K := by
  have hA : ∀ j, j ≤ 30 → (sX u a b c (nI r) (nI (rpm u r t).2) (rpm u r t).1).2.1 j = u.2.1 j := coreEq_sX.1
  have hK := hc.1.2.1
  have hro := hc.2.2.2.2.1 r hr
  have hrow := rp_ok hro.2.2.2.2.2.2.1.1 t ht
  refine ⟨Or.inr ⟨r, (act_c hA).mpr hr, sX_41⟩, fun r' hr' q => ?_, fun i hi => by rw [hA 28 (by decide)]; exact hs.2.2.1 i hi, fun i hi => ?_, fun i hi => by rw [sX_An (by decide)]; exact hs.2.2.2.2 i hi⟩
  · have hr5 := act5 hK hr
    have hr5' := act5 hK ((act_c hA).mp hr')
    have e : r' = r := nI_inj (by omega) (by omega) (q.symm.trans sX_41)
    subst e
    refine ⟨t, by rw [Tr_c hA]; exact ht, ?_, ?_⟩
    · rw [sX_A, Pm_c hA, Lm_c hA, nr_c hA]; rfl
    · rw [Pm_c hA, Lm_c hA, nr_c hA]; exact sX_42
  · rw [sX_A]
    obtain ⟨-, d, -, -, -, hz⟩ := hrow.1
    exact hz i hi
theorem simM_c {u u' : rg_U} {K : Nat} (hA : ∀ j, 5 ≤ j → j ≤ 30 → j ≠ 25 → u'.2.1 j = u.2.1 j) (h31 : u'.2.1 31 = u.2.1 31) (h37 : u'.2.1 37 = u.2.1 37) (h41 : u'.1 41 = u.1 41) (h42 : u'.1 42 = u.1 42) (hs : simM u K) : simM u' K := by
  have a5 := hA 5 (by decide) (by decide) (by decide)
  have e1 : ∀ r, Pm u' r = Pm u r := fun r => by
    unfold Pm
    rw [hA 6 (by decide) (by decide) (by decide), hA 7 (by decide) (by decide) (by decide), hA 8 (by decide) (by decide) (by decide), hA 9 (by decide) (by decide) (by decide)]
  have e2 : ∀ r, Lm u' r = Lm u r := fun r => by
    unfold Lm
    rw [hA 10 (by decide) (by decide) (by decide), hA 11 (by decide) (by decide) (by decide), hA 12 (by decide) (by decide) (by decide), hA 13 (by decide) (by decide) (by decide), hA 14 (by decide) (by decide) (by decide)]
  have ha : ∀ r, act u' K r ↔ act u K r := fun r => by unfold act; rw [a5]
  refine ⟨?_, fun r hr => ?_, by rw [hA 28 (by decide) (by decide) (by decide)]; exact hs.2.2.1, by rw [h31]; exact hs.2.2.2.1, by rw [h37]; exact hs.2.2.2.2⟩
  · rw [h41]
    rcases hs.1 with q | ⟨r, q1, q2⟩
    · exact Or.inl q
    · exact Or.inr ⟨r, (ha r).mpr q1, q2⟩
  · have := hs.2.1 r ((ha r).mp hr)
    unfold okSim nr Tr at *
    rw [h41, h42, h31, e1, e2, hA 15 (by decide) (by decide) (by decide), hA 21 (by decide) (by decide) (by decide)]
    exact this
theorem simM_cS {u : rg_U} {K r : Nat} {x : Int32} (hs : simM u K) : simM (cS u r x) K := simM_c (u := u) (u' := cS u r x) (fun j _ _ h25 => by
  show va_up u.2.1 25 _ j = _
  exact pm_up_n h25) rfl rfl rfl rfl hs
theorem rpm_cS {u : rg_U} {r r' t : Nat} {x : Int32} : rpm (cS u r' x) r t = rpm u r t := by
  have h : ∀ j, j ≠ 25 → (cS u r' x).2.1 j = u.2.1 j := fun j hj => by
    show va_up u.2.1 25 _ j = _
    exact pm_up_n hj
  unfold rpm Pm Lm nr
  rw [h 6 (by decide), h 7 (by decide), h 8 (by decide), h 9 (by decide), h 10 (by decide), h 11 (by decide), h 12 (by decide), h 13 (by decide), h 14 (by decide), h 15 (by decide)]
/-- what a replay of t costs in run r -/
def costM (u : rg_U) (r t : Nat) : Nat := rcost (Hm u r) (Ur u r) (Tr u r) t
theorem lay_all {F K W r t : Nat} {u : rg_U} (hc : coreM u K W) (hs : simM u K) (hr : act u K r) (ht : t ≤ Tr u r) (hF : 10000 < F) : ∃ a b c, g_X10_lays F (nI r) (nI t) u = some (sX u a b c (nI r) (nI (rpm u r t).2) (rpm u r t).1) := by
  have hro := hc.2.2.2.2.1 r hr
  exact m_lays (act5 hc.1.2.1 hr) hro.1 hro.2.2.2.2.2.2.1.1 hs.2.2.2.1 (hs.2.1 r hr) ht hF
theorem m_replays {F K W r t : Nat} {u : rg_U} (hc : coreM u K W) (hs : simM u K) (hr : act u K r) (ht : t ≤ Tr u r) (hF : 10000 < F) : ∃ u', g_X10_replays F (nI r) (nI t) u = some u' ∧ coreEq (cS u r (nI (costM u r t))) u' ∧ coreM u' K W ∧ simM u' K ∧ u'.2.1 31 = (rpm u r t).1 := by
  have hr5 := act5 hc.1.2.1 hr
  have hro := hc.2.2.2.2.1 r hr
  have hT3 := hro.2.2.2.2.2.2.1.1.2.2.2.1
  have fin : ∀ v, v = cS u r (nI (costM u r t)) → ∃ u', g_X10_replays_j23 F (nI r) (nI t) v = some u' ∧ coreEq (cS u r (nI (costM u r t))) u' ∧ coreM u' K W ∧ simM u' K ∧ u'.2.1 31 = (rpm u r t).1 := by
    intro v hv
    have hcv : coreM v K W := by rw [hv]; exact core_cS hc
    have hsv : simM v K := by rw [hv]; exact simM_cS hs
    have hrv : act v K r := by rw [hv]; exact hr
    have eT : Tr v r = Tr u r := by rw [hv]; rfl
    obtain ⟨a, b, c, e⟩ := lay_all hcv hsv hrv (by rw [eT]; exact ht) hF
    unfold g_X10_replays_j23
    rw [e, ob_i]
    refine ⟨_, rfl, by rw [← hv]; exact coreEq_sX, core_eq coreEq_sX hcv, simM_lay hcv hsv hrv (by rw [eT]; exact ht), ?_⟩
    rw [sX_A, hv, rpm_cS]
  unfold g_X10_replays
  rw [ck_t (inb_nI hr5 (by decide)), rA_nI (by omega), hro.2.1]
  by_cases q : t = Tr u r
  · rw [if_pos (by rw [q])]
    refine fin u ?_
    have : costM u r t = 0 := by unfold costM rcost; rw [if_pos q]
    rw [this]
    exact cS_0.symm
  · rw [if_neg (fun z => q (nI_inj (by omega) (by omega) z))]
    have h0 : ¬ Hm u r 0 = 0 := by rw [hro.2.2.2.2.2.2.2.1.1]; decide
    have hle : hk (Hm u r) (t / Ur u r) * Ur u r ≤ t := Nat.le_trans (Nat.mul_le_mul_right _ (hk_le _ _)) (Nat.div_mul_le_self t (Ur u r))
    rw [m_heldBy hr5 h0 hro.2.2.1 hro.2.2.2.2.2.1.1 hro.2.2.2.2.2.1.2.1 (by omega) hF, ob_i, nI_sub hle, m_counts hr5, ob_i]
    refine fin _ ?_
    unfold costM rcost
    rw [if_neg q]
end W_15
section W_16
-- 97b.frame
/-! frames: what a change of other places leaves -/
def scal (j : Nat) : Prop := j = 15 ∨ j = 19 ∨ (21 ≤ j ∧ j ≤ 27)
/-- all that is of run r is the same -/
def agR (u u' : rg_U) (r : Nat) : Prop := (∀ j, 6 ≤ j → j ≤ 9 → ∀ k, k < 64 → u'.2.1 j (64 * r + k) = u.2.1 j (64 * r + k)) ∧ (∀ j, 10 ≤ j → j ≤ 14 → ∀ k, k < 800 → u'.2.1 j (800 * r + k) = u.2.1 j (800 * r + k)) ∧ (∀ j, scal j → u'.2.1 j r = u.2.1 j r) ∧ (∀ j, 16 ≤ j → j ≤ 18 → ∀ k, k < 100 → u'.2.1 j (100 * r + k) = u.2.1 j (100 * r + k)) ∧ ∀ k, k < 3001 → u'.2.1 20 (3001 * r + k) = u.2.1 20 (3001 * r + k)
theorem agR_t {u v w : rg_U} {r : Nat} (h : agR u v r) (h2 : agR v w r) : agR u w r := ⟨fun j a b k c => (h2.1 j a b k c).trans (h.1 j a b k c), fun j a b k c => (h2.2.1 j a b k c).trans (h.2.1 j a b k c), fun j a => (h2.2.2.1 j a).trans (h.2.2.1 j a), fun j a b k c => (h2.2.2.2.1 j a b k c).trans (h.2.2.2.1 j a b k c), fun k c => (h2.2.2.2.2 k c).trans (h.2.2.2.2 k c)⟩
theorem agR_A {u u' : rg_U} {r : Nat} (h : ∀ j, 6 ≤ j → j ≤ 27 → u'.2.1 j = u.2.1 j) : agR u u' r := by
  refine ⟨fun j a b k c => by rw [h j (by omega) (by omega)], fun j a b k c => by rw [h j (by omega) (by omega)], fun j a => ?_, fun j a b k c => by rw [h j (by omega) (by omega)], fun k c => by rw [h 20 (by omega) (by omega)]⟩
  have : 6 ≤ j ∧ j ≤ 27 := by unfold scal at a; omega
  rw [h j this.1 this.2]
theorem Pm_g {u u' : rg_U} {r : Nat} (h : agR u u' r) : Pm u' r = Pm u r := by
  unfold Pm
  rw [ct_c (fun k hk => h.1 6 (by decide) (by decide) k hk), ct_c (fun k hk => h.1 7 (by decide) (by decide) k hk), ct_c (fun k hk => h.1 8 (by decide) (by decide) k hk), ct_c (fun k hk => h.1 9 (by decide) (by decide) k hk)]
theorem Lm_g {u u' : rg_U} {r : Nat} (h : agR u u' r) : Lm u' r = Lm u r := by
  unfold Lm
  rw [ct_c (fun k hk => h.2.1 10 (by decide) (by decide) k hk), ct_c (fun k hk => h.2.1 11 (by decide) (by decide) k hk), ct_c (fun k hk => h.2.1 12 (by decide) (by decide) k hk), ct_c (fun k hk => h.2.1 13 (by decide) (by decide) k hk), ct_c (fun k hk => h.2.1 14 (by decide) (by decide) k hk)]
theorem Hm_g {u u' : rg_U} {r : Nat} (h : agR u u' r) : Hm u' r = Hm u r := by
  unfold Hm
  rw [ct_c (fun k hk => h.2.2.2.2 k hk)]
theorem sc_g {u u' : rg_U} {r : Nat} (h : agR u u' r) : nr u' r = nr u r ∧ Tr u' r = Tr u r ∧ Ur u' r = Ur u r ∧ Dr u' r = Dr u r ∧ Cr u' r = Cr u r := by
  unfold nr Tr Ur Dr Cr
  rw [h.2.2.1 15 (Or.inl rfl), h.2.2.1 21 (Or.inr (Or.inr (by decide))), h.2.2.1 23 (Or.inr (Or.inr (by decide))), h.2.2.1 24 (Or.inr (Or.inr (by decide))), h.2.2.1 19 (Or.inr (Or.inl rfl))]
  exact ⟨rfl, rfl, rfl, rfl, rfl⟩
theorem rpm_g {u u' : rg_U} {r t : Nat} (h : agR u u' r) : rpm u' r t = rpm u r t := by
  unfold rpm
  rw [Pm_g h, Lm_g h, (sc_g h).1]
theorem runOK_g {u u' : rg_U} {r : Nat} (h : agR u u' r) (hr : runOK u r) : runOK u' r := by
  obtain ⟨e1, e2, e3, e4, e5⟩ := sc_g h
  obtain ⟨a1, a2, a3, a4, a5, a6, a7, a8, a9⟩ := hr
  unfold runOK
  rw [e1, e2, e3, e4, e5, Pm_g h, Lm_g h, Hm_g h, h.2.2.1 15 (Or.inl rfl), h.2.2.1 21 (Or.inr (Or.inr (by decide))), h.2.2.1 23 (Or.inr (Or.inr (by decide))), h.2.2.1 24 (Or.inr (Or.inr (by decide))), h.2.2.1 19 (Or.inr (Or.inl rfl))]
  refine ⟨a1, a2, a3, a4, a5, a6, a7, a8, a9.1, ?_⟩
  obtain ⟨ct, c1, c2⟩ := a9.2
  refine ⟨ct, fun i hi => ?_, c2⟩
  have hi100 := a9.1
  dsimp only
  rw [h.2.2.2.1 16 (by decide) (by decide) i (by omega)]
  exact c1 i hi
/-- of the run that is now only: the others, the program, what is watched and asked stay -/
theorem core_now {u u' : rg_U} {K W W' : Nat} (hc : coreM u K W) (hfr : ∀ r, r < 4 → agR u u' r) (hf : u'.1 4 = u.1 4 ∧ u'.1 5 = u.1 5 ∧ u'.1 29 = u.1 29 ∧ u'.1 30 = u.1 30) (hp : ∀ j, 1 ≤ j → j ≤ 4 → u'.2.1 j = u.2.1 j) (h30 : u'.2.1 30 = u.2.1 30) (h5 : ∀ r, r < 4 → u'.2.1 5 r = u.2.1 5 r) (h54 : u'.2.1 5 4 = 1) (hrun : runOK u' 4) (hlive : u'.2.1 28 = (rpm u' 4 (Tr u' 4)).1) (hw : u'.1 33 = nI W' ∧ W' + cI (Lm u' 4) (nr u' 4) ≤ 900) : coreM u' K W' := by
  obtain ⟨⟨c1, c2, c3⟩, ⟨c4, c5, c6⟩, c7, c8, c9, c10, ⟨c11, c12, c13⟩, c14⟩ := hc
  refine ⟨⟨by rw [hf.2.2.1]; exact c1, c2, by rw [hf.2.2.2]; exact c3⟩, ⟨Or.inr h54, fun _ => h54, fun r hr => by rw [h5 r (by omega)]; exact c6 r hr⟩, by rw [hp 1 (by decide) (by decide), hp 2 (by decide) (by decide), hp 3 (by decide) (by decide), hp 4 (by decide) (by decide)]; exact c7, by rw [hf.1, hf.2.1]; exact c8, fun r hr => ?_, fun _ => hlive, ⟨hw.1, by omega, fun _ => hw.2⟩, by rw [h30]; exact c14⟩
  rcases hr with hr | ⟨rfl, -⟩
  · exact runOK_g (hfr r (by omega)) (c9 r (Or.inl hr))
  · exact hrun
theorem simM_none {u : rg_U} {K : Nat} (hK : K ≤ 4) (h41 : u.1 41 = -1) (h28 : ∀ i, 134 ≤ i → u.2.1 28 i = 0) (h31 : ∀ i, 134 ≤ i → u.2.1 31 i = 0) (h37 : ∀ i, 134 ≤ i → u.2.1 37 i = 0) : simM u K := ⟨Or.inl h41, fun r hr q => absurd (q.symm.trans h41) (nI_m1 (by have := act5 hK hr; omega)), h28, h31, h37⟩
theorem rpm_z {u : rg_U} {r t : Nat} (h : runOK u r) (ht : t ≤ Tr u r) : ∀ i, 134 ≤ i → (rpm u r t).1 i = 0 := by
  obtain ⟨-, d, -, -, -, hz⟩ := (rp_ok h.2.2.2.2.2.2.1.1 t ht).1
  exact hz
/-! code, spacing, seed, watch, use, give -/
def okM (u : rg_U) (K W : Nat) : Prop := coreM u K W ∧ simM u K
theorem isIn63 {x : Int32} (h : ¬ g_X10_isIn x 0 63 = 0) : ∃ k, k < 64 ∧ x = nI k := by
  obtain ⟨k, e, h1, h2⟩ := in_nat h (by decide)
  have e1 : (63 : Int32).toInt = 63 := rfl
  exact ⟨k, by omega, e⟩
theorem isPl {x : Int32} (h : ¬ g_X10_isPlace x = 0) : ∃ k, k < 40 ∧ x = nI k := by
  obtain ⟨k, e, h1, h2⟩ := in_nat (v := x) h (by decide)
  have e1 : (39 : Int32).toInt = 39 := rfl
  exact ⟨k, by omega, e⟩
def wr4 (u : rg_U) (j k : Nat) (x a b c : Int32) : rg_U := rg_R (rg_R (rg_R (rg_R u j k x) (j + 1) k a) (j + 2) k b) (j + 3) k c
theorem wr4_n {u : rg_U} {j k i : Nat} {x a b c : Int32} (h : i < j ∨ j + 3 < i) : (wr4 u j k x a b c).2.1 i = u.2.1 i := by
  funext q
  unfold wr4
  rw [R_at, R_at, R_at, R_at, if_neg (by omega), if_neg (by omega), if_neg (by omega), if_neg (by omega)]
theorem wr4_1 {u : rg_U} {j k : Nat} {x a b c : Int32} : (wr4 u j k x a b c).1 = u.1 := rfl
theorem m_code {F K W : Nat} {a1 a2 a3 a4 a5 : Int32} {u : rg_U} (h : okM u K W) : (g_X10_isIn a1 0 63 = 0 ∨ g_X10_isFine a2 a3 a4 a5 = 0) ∧ g_X10_code F a1 a2 a3 a4 a5 u = some (0, u) ∨ ∃ k, k < 64 ∧ a1 = nI k ∧ ¬ g_X10_isFine a2 a3 a4 a5 = 0 ∧ g_X10_code F a1 a2 a3 a4 a5 u = some (1, wr4 u 1 k a2 a3 a4 a5) ∧ okM (wr4 u 1 k a2 a3 a4 a5) K W := by
  unfold g_X10_code
  by_cases q : g_X10_isIn a1 0 63 = 0
  · exact Or.inl ⟨Or.inl q, by rw [if_pos q]⟩
  rw [if_neg q]
  by_cases q2 : g_X10_isFine a2 a3 a4 a5 = 0
  · exact Or.inl ⟨Or.inr q2, by rw [if_pos q2]⟩
  rw [if_neg q2]
  obtain ⟨k, hk, rfl⟩ := isIn63 q
  simp only [lt1_i, ck_t (inb_nI hk (by decide)), sA_nI (show k < 2 ^ 31 by omega)]
  refine Or.inr ⟨k, hk, rfl, q2, rfl, ?_, ?_⟩
  · obtain ⟨⟨⟨c1, c2, c3⟩, ⟨c4, c5, c6⟩, c7, c8, c9, c10, c11, c14⟩, -⟩ := h
    have hA : ∀ j, 5 ≤ j → (wr4 u 1 k a2 a3 a4 a5).2.1 j = u.2.1 j := fun j hj => wr4_n (by omega)
    have hg : ∀ r, agR u (wr4 u 1 k a2 a3 a4 a5) r := fun r => agR_A (fun j h1 h2 => hA j (by omega))
    have a5' := hA 5 (by decide)
    refine ⟨⟨c1, c2, c3⟩, ⟨by rw [a5']; exact c4, by rw [a5']; exact c5, by rw [a5']; exact c6⟩, fun i hi => ?_, c8, fun r hr => runOK_g (hg r) (c9 r (by unfold act at hr ⊢; rw [← a5']; exact hr)), ?_, ?_, by rw [hA 30 (by decide)]; exact c14⟩
    · have e1 : ∀ z, 1 ≤ z → z ≤ 4 → (wr4 u 1 k a2 a3 a4 a5).2.1 z i = if i = k then (if z = 1 then a2 else if z = 2 then a3 else if z = 3 then a4 else a5) else u.2.1 z i := fun z h1 h2 => by
        unfold wr4
        rw [R_at, R_at, R_at, R_at]
        by_cases qi : i = k
        · subst qi
          rcases (show z = 1 ∨ z = 2 ∨ z = 3 ∨ z = 4 by omega) with rfl | rfl | rfl | rfl <;> simp
        · rw [if_neg (fun w => qi w.2), if_neg (fun w => qi w.2), if_neg (fun w => qi w.2), if_neg (fun w => qi w.2), if_neg qi]
      dsimp only
      rw [e1 1 (by decide) (by decide), e1 2 (by decide) (by decide), e1 3 (by decide) (by decide), e1 4 (by decide) (by decide)]
      by_cases qi : i = k
      · simp only [if_pos qi]
        exact q2
      · simp only [if_neg qi]
        exact c7 i hi
    · rw [a5', hA 28 (by decide), rpm_g (hg 4), (sc_g (hg 4)).2.1]; exact c10
    · rw [a5', Lm_g (hg 4), (sc_g (hg 4)).1]; exact c11
  · exact simM_c (u := u) (fun j h1 h2 _ => wr4_n (by omega)) (wr4_n (by omega)) (wr4_n (by omega)) rfl rfl h.2
end W_16
