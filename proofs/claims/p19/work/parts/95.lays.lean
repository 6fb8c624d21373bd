/-- a step that takes nothing doesn't ask the log -/
theorem do_num {m : Row} {k : Nat} {a b c num en num' en' : Int32} (h1 : k ≠ 19) (h2 : k ≠ 20) : mdo m k a b c num en = mdo m k a b c num' en' := by
  unfold mdo
  split <;> first | rfl | (exfalso; omega)
theorem step_num {P : Prg} {m : Row} {num en num' en' : Int32} (hP : okP P) (hm : okR m) (h1 : ¬ kindOf P (m 120) = 19) (h2 : ¬ kindOf P (m 120) = 20) : mstep P m num en = mstep P m num' en' := by
  unfold mstep
  by_cases hk : kindOf P (m 120) = -1
  · rw [if_pos hk, if_pos hk]
  · rw [if_neg hk, if_neg hk]
    obtain ⟨cn, hc1, hc2⟩ := hm.1
    rw [hc2] at hk h1 h2 ⊢
    obtain ⟨hc64, ek⟩ := kind_in hc1 hk
    obtain ⟨k, hk23, ek2⟩ := fine_k (hP cn hc64) (by rw [← ek]; exact hk)
    rw [ek, ek2] at h1 h2 ⊢
    rw [tnn (show k < 2 ^ 31 by omega)]
    rw [do_num (m := upd m 120 (imin 64 (nI cn + 1))) (num := num) (en := en) (num' := num') (en' := en') (fun q => h1 (by rw [q]; rfl)) (fun q => h2 (by rw [q]; rfl))]
theorem step_take {P : Prg} {m : Row} {num en : Int32} (h : kindOf P (m 120) = 19 ∨ kindOf P (m 120) = 20) : (mstep P m num en).2.2.1 = en := by
  unfold mstep
  rcases h with h | h
  · rw [h, if_neg (by decide)]; rfl
  · rw [h, if_neg (by decide)]; rfl
/-! the states of a run's times, and that the reference comes to them -/
theorem spk_ok {L : Lg} {n : Nat} (hL : okL L n) : ∀ (f : Nat) (m : Row) (l : Nat), n - l = f → okR m → okR (spk L n m l).1 ∧ ∀ i, 120 ≤ i → (spk L n m l).1 i = m i
  | f, m, l, hf, h => by
    by_cases q : l < n ∧ L.2.1 l = 2 ∧ L.1 l = m 133
    · rw [spk_yes q]
      obtain ⟨p, hp, ep⟩ := hL l q.1 q.2.1
      match f, hf with
      | 0, hf => omega
      | f + 1, hf =>
        have h2 : ∀ i, 120 ≤ i → mput m (tn (L.2.2.2.1 l)) (L.2.2.2.2 l) (L.2.2.1 l) i = m i := fun i hi => mput_hi (by rw [ep, tnn (by omega)]; exact hp) hi
        have h3 := spk_ok hL f (mput m (tn (L.2.2.2.1 l)) (L.2.2.2.2 l) (L.2.2.1 l)) (l + 1) (by omega) (okR_hi h (fun i a b => h2 i a))
        exact ⟨h3.1, fun i hi => (h3.2 i hi).trans (h2 i hi)⟩
    · rw [spk_no q]
      exact ⟨h, fun i hi => rfl⟩
/-- a run of T steps whose log has n entries: the program can be, pokes go to places, no step takes what the log hasn't -/
def okG (P : Prg) (L : Lg) (n T : Nat) : Prop := okP P ∧ okL L n ∧ n ≤ 800 ∧ T ≤ 3000 ∧ ∀ t, t < T → (kindOf P ((rp P L n t).1 120) = 19 ∨ kindOf P ((rp P L n t).1 120) = 20) → (rp P L n t).2 < n
theorem nI_m1 {l : Nat} (h : l < 2 ^ 31) : ¬ nI l = -1 := fun q => by
  have h1 := nI_toInt h
  rw [q] at h1
  have h2 : (-1 : Int32).toInt = -1 := by decide
  omega
theorem nxt_l {P : Prg} {m : Row} {num : Int32} {l : Nat} (hP : okP P) (hm : okR m) (hl : l < 2 ^ 31) : (mstep P m num (nI l)).2.2.1 = -1 ∨ ((kindOf P (m 120) = 19 ∨ kindOf P (m 120) = 20) ∧ ¬ (mstep P m num (nI l)).2.2.1 = -1) := by
  rcases (ok_step (num := num) (en := nI l) hP hm).2.2 with q | ⟨q1, q2⟩
  · exact Or.inl q
  · exact Or.inr ⟨q1, by rw [q2]; exact nI_m1 hl⟩
theorem rp_ok {P : Prg} {L : Lg} {n T : Nat} (h : okG P L n T) : ∀ t, t ≤ T → okR (rp P L n t).1 ∧ (rp P L n t).1 133 = nI t ∧ (rp P L n t).2 ≤ n
  | 0, _ => by
    have h1 := spk_ok h.2.1 (n - 0) zrow 0 rfl okR_0
    exact ⟨h1.1, (h1.2 133 (by omega)).trans rfl, (spk_le (L := L) (n := n) (n - 0) zrow 0 rfl (Nat.zero_le _)).2⟩
  | t + 1, ht => by
    obtain ⟨i1, i2, i3⟩ := rp_ok h t (by omega)
    have n8 := h.2.2.1
    show okR (nxt P L n (rp P L n t).1 (rp P L n t).2).1 ∧ (nxt P L n (rp P L n t).1 (rp P L n t).2).1 133 = nI (t + 1) ∧ (nxt P L n (rp P L n t).1 (rp P L n t).2).2 ≤ n
    unfold nxt
    have hs := ok_step (num := L.2.2.1 (rp P L n t).2) (en := nI (rp P L n t).2) h.1 i1
    have hl : (if (mstep P (rp P L n t).1 (L.2.2.1 (rp P L n t).2) (nI (rp P L n t).2)).2.2.1 = -1 then (rp P L n t).2 else (rp P L n t).2 + 1) ≤ n := by
      rcases nxt_l (num := L.2.2.1 (rp P L n t).2) h.1 i1 (show (rp P L n t).2 < 2 ^ 31 by omega) with q | ⟨q1, q2⟩
      · rw [if_pos q]; exact i3
      · rw [if_neg q2]; exact h.2.2.2.2 t (by omega) q1
    have h1 := spk_ok h.2.1 _ (mstep P (rp P L n t).1 (L.2.2.1 (rp P L n t).2) (nI (rp P L n t).2)).1 (if (mstep P (rp P L n t).1 (L.2.2.1 (rp P L n t).2) (nI (rp P L n t).2)).2.2.1 = -1 then (rp P L n t).2 else (rp P L n t).2 + 1) rfl hs.1
    exact ⟨h1.1, by rw [h1.2 133 (by omega), hs.2.1, i2, nI_1], (spk_le (L := L) (n := n) _ _ _ rfl hl).2⟩
theorem Pm_sX {u : rg_U} {r : Nat} {a b c sr sl : Int32} {m : Row} : Pm (sX u a b c sr sl m) r = Pm u r := by
  unfold Pm
  rw [sX_An (by decide), sX_An (by decide), sX_An (by decide), sX_An (by decide)]
theorem m_simStep {F r n T t : Nat} {a b c : Int32} {u : rg_U} (hr : r < 5) (hn : u.2.1 15 r = nI n) (hG : okG (Pm u r) (Lm u r) n T) (ht : t < T) (hF : 10000 < F) : ∃ a' b' c', g_X10_simStep F (sX u a b c (nI r) (nI (rp (Pm u r) (Lm u r) n t).2) (rp (Pm u r) (Lm u r) n t).1) = some (sX u a' b' c' (nI r) (nI (rp (Pm u r) (Lm u r) n (t + 1)).2) (rp (Pm u r) (Lm u r) n (t + 1)).1) := by
  obtain ⟨i1, i2, i3⟩ := rp_ok hG t (by omega)
  have n8 := hG.2.2.1
  have htake := hG.2.2.2.2 t ht
  show ∃ a' b' c', _ = some (sX u a' b' c' (nI r) (nI (nxt (Pm u r) (Lm u r) n (rp (Pm u r) (Lm u r) n t).1 (rp (Pm u r) (Lm u r) n t).2).2) (nxt (Pm u r) (Lm u r) n (rp (Pm u r) (Lm u r) n t).1 (rp (Pm u r) (Lm u r) n t).2).1)
  generalize (rp (Pm u r) (Lm u r) n t).1 = m at *
  generalize (rp (Pm u r) (Lm u r) n t).2 = l at *
  obtain ⟨⟨cn, hc1, hc2⟩, d, hd1, hd2, -⟩ := id i1
  unfold g_X10_simStep
  rw [sX_41, sX_42]
  have hst := m_steps (F := F) (o := 31) (r := r) (cn := cn) (d := d) (ee := l) (u := sX u a b c (nI r) (nI l) m) hr (by decide) (by rw [Pm_sX]; exact hG.1) (by rw [sX_A]; exact hc2) hc1 (by rw [sX_A]; exact hd2) hd1 (by rw [Pm_sX, ← hc2]; intro q; have := htake q; omega)
  rw [Pm_sX, sX_A, sX_An (show (12 : Nat) ≠ 31 by decide), sX_sT] at hst
  rw [hst, ob_i]
  have e12 : mstep (Pm u r) m (u.2.1 12 (800 * r + l)) (nI l) = mstep (Pm u r) m ((Lm u r).2.2.1 l) (nI l) := by
    by_cases q : kindOf (Pm u r) (m 120) = 19 ∨ kindOf (Pm u r) (m 120) = 20
    · have := htake q
      rw [show (Lm u r).2.2.1 l = u.2.1 12 (800 * r + l) from Lm_2 (by omega)]
    · exact step_num hG.1 i1 (fun z => q (Or.inl z)) (fun z => q (Or.inr z))
  rw [e12]
  unfold nxt
  have htk := nxt_l (num := (Lm u r).2.2.1 l) hG.1 i1 (show l < 2 ^ 31 by omega)
  generalize mstep (Pm u r) m ((Lm u r).2.2.1 l) (nI l) = z at *
  have e38 : rF (sX u z.2.1 z.2.2.1 z.2.2.2 (nI r) (nI l) z.1) 0 38 = z.2.2.1 := by
    show upd (upd (upd (upd (upd u.1 37 z.2.1) 38 z.2.2.1) 39 z.2.2.2) 41 (nI r)) 42 (nI l) 38 = _
    rw [pk_un (by decide), pk_un (by decide), pk_un (by decide), pk_us]
  rw [e38]
  unfold g_X10_simStep_j34 g_X10_simPokes
  rcases htk with q | ⟨q1, q2⟩
  · rw [if_pos q, if_pos q, m_simPokes hr hn n8 hG.2.1 (by omega) (n - l) l _ _ _ _ rfl i3 F (by omega)]
    exact ⟨_, _, _, rfl⟩
  · have hlt := htake q1
    rw [if_neg q2, if_neg q2, lt1_i, sX_42, nI_1, sX_s42, m_simPokes hr hn n8 hG.2.1 (by omega) (n - (l + 1)) (l + 1) _ _ _ _ rfl hlt F (by omega)]
    exact ⟨_, _, _, rfl⟩
theorem m_simBegins {F r n T : Nat} {u : rg_U} (hr : r < 5) (hn : u.2.1 15 r = nI n) (hG : okG (Pm u r) (Lm u r) n T) (hz : ∀ i, 134 ≤ i → u.2.1 31 i = 0) (hF : 10000 < F) : ∃ a b c, g_X10_simBegins F (nI r) u = some (sX u a b c (nI r) (nI (rp (Pm u r) (Lm u r) n 0).2) (rp (Pm u r) (Lm u r) n 0).1) := by
  unfold g_X10_simBegins
  rw [lt1_i, lt1_i]
  obtain ⟨v, e1, s1, h1⟩ := m_clears (F := F) (o := 31) (u := sF (sF u 0 41 (nI r)) 0 42 0) (by omega)
  rw [e1, ob_i]
  have ev : v = sX u (u.1 37) (u.1 38) (u.1 39) (nI r) (nI 0) zrow := by
    have e2 : v = (v.1, v.2.1, v.2.2) := rfl
    rw [e2, s1.1, s1.2]
    have e3 : v.2.1 = va_up u.2.1 31 zrow := by
      funext j i
      rw [h1 j i]
      unfold va_up
      by_cases q : j = 31
      · rw [if_pos q]
        by_cases q2 : i < 134
        · rw [if_pos ⟨q, q2⟩]; rfl
        · rw [if_neg (fun z => q2 z.2), q]
          show u.2.1 31 i = 0
          exact hz i (by omega)
      · rw [if_neg q, if_neg (fun z => q z.1)]; rfl
    rw [e3]
    have e4 : (sF (sF u 0 41 (nI r)) 0 42 0).1 = upd (upd (upd (upd (upd u.1 37 (u.1 37)) 38 (u.1 38)) 39 (u.1 39)) 41 (nI r)) 42 (nI 0) := by
      have h : ∀ k, upd u.1 k (u.1 k) = u.1 := fun k => by
        funext i
        unfold upd
        by_cases q : i = k
        · rw [if_pos q, q]
        · rw [if_neg q]
      rw [h, h, h]
      rfl
    rw [e4]
    rfl
  rw [ev]
  unfold g_X10_simPokes
  rw [m_simPokes hr hn hG.2.2.1 hG.2.1 (by omega) (n - 0) 0 _ _ _ _ rfl (Nat.zero_le _) F (by have := hG.2.2.1; omega)]
  exact ⟨_, _, _, rfl⟩
/-- sim, where it goes along with run r, has the state of some time of it -/
def okSim (u : rg_U) (r n T : Nat) : Prop := u.1 41 = nI r → ∃ s, s ≤ T ∧ u.2.1 31 = (rp (Pm u r) (Lm u r) n s).1 ∧ u.1 42 = nI (rp (Pm u r) (Lm u r) n s).2
theorem m_laysl {F r n T t : Nat} {u : rg_U} (hr : r < 5) (hn : u.2.1 15 r = nI n) (hG : okG (Pm u r) (Lm u r) n T) (ht : t ≤ T) (hF : 10000 < F) : ∀ (f s : Nat) (a b c : Int32), s + f = t → ∀ G, f < G → ∃ a' b' c', lp (fun (s : rg_U) => g_X10_lays_l25 F (nI t) s) G (sX u a b c (nI r) (nI (rp (Pm u r) (Lm u r) n s).2) (rp (Pm u r) (Lm u r) n s).1) = some (sX u a' b' c' (nI r) (nI (rp (Pm u r) (Lm u r) n t).2) (rp (Pm u r) (Lm u r) n t).1)
  | f, s, a, b, c, hf, G, hfG => by
    have hT := hG.2.2.2.1
    match G, hfG with
    | 0, hfG => omega
    | G + 1, hfG =>
    unfold lp g_X10_lays_l25
    have e133 : rA (sX u a b c (nI r) (nI (rp (Pm u r) (Lm u r) n s).2) (rp (Pm u r) (Lm u r) n s).1) 31 133 = nI s := (congrFun sX_A 133).trans (rp_ok hG s (by omega)).2.1
    rw [ck_t (by decide), e133]
    by_cases q : s = t
    · subst q
      rw [if_pos (nI_le (Nat.le_refl _) (by omega))]
      exact ⟨_, _, _, rfl⟩
    · rw [if_neg (nI_ge (by omega) (by omega))]
      obtain ⟨a', b', c', e1⟩ := m_simStep (a := a) (b := b) (c := c) hr hn hG (show s < T by omega) hF
      rw [e1, ob_i]
      match f, hf with
      | 0, hf => omega
      | f + 1, hf => exact m_laysl hr hn hG ht hF f (s + 1) a' b' c' (by omega) G (by omega)
theorem m_lays {F r n T t : Nat} {u : rg_U} (hr : r < 5) (hn : u.2.1 15 r = nI n) (hG : okG (Pm u r) (Lm u r) n T) (hz : ∀ i, 134 ≤ i → u.2.1 31 i = 0) (hS : okSim u r n T) (ht : t ≤ T) (hF : 10000 < F) : ∃ a b c, g_X10_lays F (nI r) (nI t) u = some (sX u a b c (nI r) (nI (rp (Pm u r) (Lm u r) n t).2) (rp (Pm u r) (Lm u r) n t).1) := by
  have hT := hG.2.2.2.1
  have anew : ∃ a b c, g_X10_lays_j20 F (nI r) (nI t) u = some (sX u a b c (nI r) (nI (rp (Pm u r) (Lm u r) n t).2) (rp (Pm u r) (Lm u r) n t).1) := by
    unfold g_X10_lays_j20 g_X10_lays_j25
    obtain ⟨a, b, c, e1⟩ := m_simBegins hr hn hG hz hF
    rw [e1, ob_i]
    obtain ⟨a', b', c', e2⟩ := m_laysl hr hn hG ht hF t 0 a b c (by omega) F (by omega)
    rw [e2]
    exact ⟨a', b', c', rfl⟩
  unfold g_X10_lays
  by_cases q : rF u 0 41 = nI r
  · rw [if_pos q, ck_t (by decide)]
    obtain ⟨s, hs, h1, h2⟩ := hS q
    have e133 : rA u 31 133 = nI s := by
      show u.2.1 31 133 = _
      rw [h1]
      exact (rp_ok hG s hs).2.1
    rw [e133]
    by_cases q2 : s ≤ t
    · rw [if_pos (nI_le q2 (by omega))]
      unfold g_X10_lays_j25
      obtain ⟨a', b', c', e2⟩ := m_laysl hr hn hG ht hF (t - s) s (u.1 37) (u.1 38) (u.1 39) (by omega) F (by omega)
      have eu : sX u (u.1 37) (u.1 38) (u.1 39) (nI r) (nI (rp (Pm u r) (Lm u r) n s).2) (rp (Pm u r) (Lm u r) n s).1 = u := by
        rw [← h1, ← h2, ← (show u.1 41 = nI r from q)]
        exact sX_id
      rw [eu] at e2
      rw [e2]
      exact ⟨a', b', c', rfl⟩
    · rw [if_neg (nI_ge (by omega) (by omega))]
      exact anew
  · rw [if_neg q]
    exact anew
/-! what a replay costs -/
def hk (H : Nat → Int32) : Nat → Nat
  | 0 => 0
  | k + 1 => if H (k + 1) = 0 then hk H k else k + 1
def Hm (u : rg_U) (r : Nat) : Nat → Int32 := ct 3001 (fun k => u.2.1 20 (3001 * r + k))
theorem Hm_k {u : rg_U} {r k : Nat} (h : k < 3001) : Hm u r k = u.2.1 20 (3001 * r + k) := by
  show ct 3001 (fun k => u.2.1 20 (3001 * r + k)) k = _
  rw [ct_lt h]
theorem hk_le (H : Nat → Int32) : ∀ k, hk H k ≤ k
  | 0 => Nat.le_refl _
  | k + 1 => by
    unfold hk
    by_cases q : H (k + 1) = 0
    · rw [if_pos q]; have := hk_le H k; omega
    · rw [if_neg q]; exact Nat.le_refl _
theorem nI_dec {k : Nat} : nI (k + 1) + (-1) = nI k := by
  rw [← nI_pred k, Int32.sub_eq_add_neg]
theorem m_heldByl {F r : Nat} {u : rg_U} (hr : r < 5) (h0 : ¬ Hm u r 0 = 0) : ∀ (k : Nat), k ≤ 3000 → ∀ G, k < G → lp (fun (s : Int32) => g_X10_heldBy_l9 F (nI r) u s) G (nI k) = some (nI (hk (Hm u r) k))
  | k, hk3, G, hG => by
    match G, hG with
    | 0, hG => omega
    | G + 1, hG =>
    unfold lp g_X10_heldBy_l9
    rw [heldAt_nI, ck_t (inb_nI (by omega) (by decide)), rA_nI (by omega)]
    match k, hk3, hG with
    | 0, hk3, hG =>
      rw [if_neg (show ¬ u.2.1 20 (3001 * r + 0) = 0 from fun z => h0 ((Hm_k (by decide)).trans z))]
      rfl
    | k + 1, hk3, hG =>
      show _ = some (nI (if Hm u r (k + 1) = 0 then hk (Hm u r) k else k + 1))
      by_cases q : Hm u r (k + 1) = 0
      · rw [if_pos (show u.2.1 20 (3001 * r + (k + 1)) = 0 from (Hm_k (show k + 1 < 3001 by omega)).symm.trans q), if_pos q, nI_dec]
        exact m_heldByl (F := F) hr h0 k (by omega) G (by omega)
      · rw [if_neg (show ¬ u.2.1 20 (3001 * r + (k + 1)) = 0 from fun z => q ((Hm_k (show k + 1 < 3001 by omega)).trans z)), if_neg q]
theorem m_heldBy {F r U t : Nat} {u : rg_U} (hr : r < 5) (h0 : ¬ Hm u r 0 = 0) (hU : u.2.1 23 r = nI U) (hU0 : 0 < U) (hU6 : U ≤ 64) (ht : t ≤ 3000) (hF : 10000 < F) : g_X10_heldBy F (nI r) (nI t) u = some (nI (hk (Hm u r) (t / U) * U)) := by
  have hd : t / U ≤ 3000 := Nat.le_trans (Nat.div_le_self t U) ht
  unfold g_X10_heldBy
  rw [ck_t (inb_nI hr (by decide)), rA_nI (by omega), hU, ck_t (nI_ne0 hU0 (by omega)), pk_div (by omega) hU0 (by omega), m_heldByl hr h0 (t / U) hd F (by omega), ob_i, ck_t (inb_nI hr (by decide)), pk_mul]
/-- x steps more are counted as replayed -/
def cS (u : rg_U) (r : Nat) (x : Int32) : rg_U := sF (rg_R u 25 r (u.2.1 25 r + x)) 0 35 (u.1 35 + x)
theorem cS_0 {u : rg_U} {r : Nat} : cS u r 0 = u := by
  unfold cS sF rg_F rg_R
  rw [Int32.add_zero, Int32.add_zero]
  have e1 : upd (u.2.1 25) r (u.2.1 25 r) = u.2.1 25 := by
    funext i
    unfold upd
    by_cases q : i = r
    · rw [if_pos q, q]
    · rw [if_neg q]
  have e2 : upd u.1 (100 * 0 + 35) (u.1 35) = u.1 := by
    funext i
    unfold upd
    by_cases q : i = 100 * 0 + 35
    · rw [if_pos q, q]
    · rw [if_neg q]
  dsimp only
  rw [e1, e2, va_same]
theorem m_counts {F r : Nat} {x : Int32} {u : rg_U} (hr : r < 5) : g_X10_counts F (nI r) x u = some (cS u r x) := by
  unfold g_X10_counts cS
  rw [ck_t (inb_nI hr (by decide)), ck_t (inb_nI hr (by decide)), lt1_i, lt1_i, rA_nI (by omega), sA_nI (by omega)]
  rfl
def rcost (H : Nat → Int32) (U T t : Nat) : Nat := if t = T then 0 else t - hk H (t / U) * U
