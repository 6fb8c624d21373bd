/-! REPLAY: what the reference's sim comes to, as a function of program and log -/
/-- a log: times, sorts (0 INPUT, 1 DRAW, 2 POKE), numbers, places, values -/
abbrev Lg : Type := (Nat → Int32) × (Nat → Int32) × (Nat → Int32) × (Nat → Int32) × (Nat → Int32)
def Lm (u : rg_U) (r : Nat) : Lg := (ct 800 (fun k => u.2.1 10 (800 * r + k)), ct 800 (fun k => u.2.1 11 (800 * r + k)), ct 800 (fun k => u.2.1 12 (800 * r + k)), ct 800 (fun k => u.2.1 13 (800 * r + k)), ct 800 (fun k => u.2.1 14 (800 * r + k)))
theorem Lm_0 {u : rg_U} {r k : Nat} (h : k < 800) : (Lm u r).1 k = u.2.1 10 (800 * r + k) := by
  show ct 800 (fun k => u.2.1 10 (800 * r + k)) k = _
  rw [ct_lt h]
theorem Lm_1 {u : rg_U} {r k : Nat} (h : k < 800) : (Lm u r).2.1 k = u.2.1 11 (800 * r + k) := by
  show ct 800 (fun k => u.2.1 11 (800 * r + k)) k = _
  rw [ct_lt h]
theorem Lm_2 {u : rg_U} {r k : Nat} (h : k < 800) : (Lm u r).2.2.1 k = u.2.1 12 (800 * r + k) := by
  show ct 800 (fun k => u.2.1 12 (800 * r + k)) k = _
  rw [ct_lt h]
theorem Lm_3 {u : rg_U} {r k : Nat} (h : k < 800) : (Lm u r).2.2.2.1 k = u.2.1 13 (800 * r + k) := by
  show ct 800 (fun k => u.2.1 13 (800 * r + k)) k = _
  rw [ct_lt h]
theorem Lm_4 {u : rg_U} {r k : Nat} (h : k < 800) : (Lm u r).2.2.2.2 k = u.2.1 14 (800 * r + k) := by
  show ct 800 (fun k => u.2.1 14 (800 * r + k)) k = _
  rw [ct_lt h]
def spkf (L : Lg) (n : Nat) : Nat → Row → Nat → Row × Nat
  | 0, m, l => (m, l)
  | f + 1, m, l => if l < n ∧ L.2.1 l = 2 ∧ L.1 l = m 133 then spkf L n f (mput m (tn (L.2.2.2.1 l)) (L.2.2.2.2 l) (L.2.2.1 l)) (l + 1) else (m, l)
def spk (L : Lg) (n : Nat) (m : Row) (l : Nat) : Row × Nat := spkf L n (n - l) m l
theorem spk_yes {L : Lg} {n : Nat} {m : Row} {l : Nat} (h : l < n ∧ L.2.1 l = 2 ∧ L.1 l = m 133) : spk L n m l = spk L n (mput m (tn (L.2.2.2.1 l)) (L.2.2.2.2 l) (L.2.2.1 l)) (l + 1) := by
  unfold spk
  rw [show n - l = (n - (l + 1)) + 1 by omega]
  show (if _ then _ else _) = _
  rw [if_pos h]
theorem spk_no {L : Lg} {n : Nat} {m : Row} {l : Nat} (h : ¬ (l < n ∧ L.2.1 l = 2 ∧ L.1 l = m 133)) : spk L n m l = (m, l) := by
  unfold spk
  cases hf : n - l with
  | zero => rfl
  | succ f =>
    show (if _ then _ else _) = _
    rw [if_neg h]
theorem spk_le {L : Lg} {n : Nat} : ∀ (f : Nat) (m : Row) (l : Nat), n - l = f → l ≤ n → l ≤ (spk L n m l).2 ∧ (spk L n m l).2 ≤ n
  | f, m, l, hf, hl => by
    by_cases h : l < n ∧ L.2.1 l = 2 ∧ L.1 l = m 133
    · rw [spk_yes h]
      match f, hf with
      | 0, hf => omega
      | f + 1, hf =>
        have := spk_le (L := L) (n := n) f (mput m (tn (L.2.2.2.1 l)) (L.2.2.2.2 l) (L.2.2.1 l)) (l + 1) (by omega) (by omega)
        omega
    · rw [spk_no h]
      exact ⟨Nat.le_refl _, hl⟩
def zrow : Row := fun _ => 0
def nxt (P : Prg) (L : Lg) (n : Nat) (m : Row) (l : Nat) : Row × Nat := spk L n (mstep P m (L.2.2.1 l) (nI l)).1 (if (mstep P m (L.2.2.1 l) (nI l)).2.2.1 = -1 then l else l + 1)
def rp (P : Prg) (L : Lg) (n : Nat) : Nat → Row × Nat
  | 0 => spk L n zrow 0
  | t + 1 => nxt P L n (rp P L n t).1 (rp P L n t).2
/-! the fields and the row that go along -/
def sX (u : rg_U) (a b c sr sl : Int32) (m : Row) : rg_U := (upd (upd (upd (upd (upd u.1 37 a) 38 b) 39 c) 41 sr) 42 sl, va_up u.2.1 31 m, u.2.2)
theorem sX_A {u : rg_U} {a b c sr sl : Int32} {m : Row} : (sX u a b c sr sl m).2.1 31 = m := by
  show va_up u.2.1 31 m 31 = m
  exact pm_up_s
theorem sX_An {u : rg_U} {a b c sr sl : Int32} {m : Row} {j : Nat} (h : j ≠ 31) : (sX u a b c sr sl m).2.1 j = u.2.1 j := pm_up_n h
theorem sX_41 {u : rg_U} {a b c sr sl : Int32} {m : Row} : rF (sX u a b c sr sl m) 0 41 = sr := by
  show upd (upd (upd (upd (upd u.1 37 a) 38 b) 39 c) 41 sr) 42 sl 41 = sr
  rw [pk_un (by decide)]
  exact pk_us
theorem sX_42 {u : rg_U} {a b c sr sl : Int32} {m : Row} : rF (sX u a b c sr sl m) 0 42 = sl := by
  show upd (upd (upd (upd (upd u.1 37 a) 38 b) 39 c) 41 sr) 42 sl 42 = sl
  exact pk_us
theorem sX_n {u : rg_U} {a b c sr sl : Int32} {m : Row} {k : Nat} (h : k ≠ 37 ∧ k ≠ 38 ∧ k ≠ 39 ∧ k ≠ 41 ∧ k ≠ 42) : (sX u a b c sr sl m).1 k = u.1 k := by
  unfold sX
  dsimp only
  rw [pk_un h.2.2.2.2, pk_un h.2.2.2.1, pk_un h.2.2.1, pk_un h.2.1, pk_un h.1]
theorem sX_id {u : rg_U} : sX u (u.1 37) (u.1 38) (u.1 39) (u.1 41) (u.1 42) (u.2.1 31) = u := by
  unfold sX
  rw [va_same]
  have e : upd (upd (upd (upd (upd u.1 37 (u.1 37)) 38 (u.1 38)) 39 (u.1 39)) 41 (u.1 41)) 42 (u.1 42) = u.1 := by
    have h : ∀ k, upd u.1 k (u.1 k) = u.1 := fun k => by
      funext i
      unfold upd
      by_cases q : i = k
      · rw [if_pos q, q]
      · rw [if_neg q]
    rw [h, h, h, h, h]
  rw [e]
theorem sX_s42 {u : rg_U} {a b c sr sl v : Int32} {m : Row} : sF (sX u a b c sr sl m) 0 42 v = sX u a b c sr v m := by
  unfold sF rg_F sX
  dsimp only
  rw [show 100 * 0 + 42 = 42 from rfl, upd2]
theorem sX_s41 {u : rg_U} {a b c sr sl v : Int32} {m : Row} : sF (sX u a b c sr sl m) 0 41 v = sX u a b c v sl m := by
  unfold sF rg_F sX
  dsimp only
  rw [show 100 * 0 + 41 = 41 from rfl, upd_c (k := 42) (l := 41) (by decide), upd2]
theorem sX_row {u : rg_U} {a b c sr sl : Int32} {m m' : Row} : rw_ (sX u a b c sr sl m) 31 m' = sX u a b c sr sl m' := by
  unfold rw_ sX
  dsimp only
  rw [va_twice]
theorem sX_sT {u : rg_U} {a b c sr sl : Int32} {m : Row} {z : MSt} : sTp (sX u a b c sr sl m) 31 z = sX u z.2.1 z.2.2.1 z.2.2.2 sr sl z.1 := by
  unfold sTp sT rw_ fl3 sX
  dsimp only
  rw [va_twice]
  have e : upd (upd (upd (upd (upd (upd (upd (upd u.1 37 a) 38 b) 39 c) 41 sr) 42 sl) 37 z.2.1) 38 z.2.2.1) 39 z.2.2.2 = upd (upd (upd (upd (upd u.1 37 z.2.1) 38 z.2.2.1) 39 z.2.2.2) 41 sr) 42 sl := by
    funext k
    unfold upd
    by_cases h7 : k = 37
    · subst h7; simp
    by_cases h8 : k = 38
    · subst h8; simp
    by_cases h9 : k = 39
    · subst h9; simp
    simp only [h7, h8, h9, if_false]
  rw [e]
theorem m_puts2 {F o p : Nat} {s n : Int32} {u : rg_U} (hp : p < 40) : g_X10_puts F o 134 (nI p) s n u = some (rw_ u o (mput (u.2.1 o) p s n)) := by
  have h := m_puts (F := F) (o := o) (s := s) (n := n) (a := u.1 37) (b := u.1 38) (c := u.1 39) (u := u) (m := u.2.1 o) hp
  have e : ∀ m, sT u o m (u.1 37) (u.1 38) (u.1 39) = rw_ u o m := fun m => by
    unfold sT
    have : fl3 u (u.1 37) (u.1 38) (u.1 39) = u := by
      unfold fl3
      have h : ∀ k, upd u.1 k (u.1 k) = u.1 := fun k => by
        funext i
        unfold upd
        by_cases q : i = k
        · rw [if_pos q, q]
        · rw [if_neg q]
      rw [h, h, h]
    rw [this]
  rw [e, e, rw_id] at h
  exact h
/-- a log whose pokes go to places -/
def okL (L : Lg) (n : Nat) : Prop := ∀ k, k < n → L.2.1 k = 2 → ∃ p, p < 40 ∧ L.2.2.2.1 k = nI p
theorem m_simPokes {F r n : Nat} {u : rg_U} (hr : r < 5) (hn : u.2.1 15 r = nI n) (hn8 : n ≤ 800) (hL : okL (Lm u r) n) (hF : 800 < F) : ∀ (f l : Nat) (a b c : Int32) (m : Row), n - l = f → l ≤ n → ∀ G, f < G → lp (fun (s : rg_U) => g_X10_simPokes_l0 F s) G (sX u a b c (nI r) (nI l) m) = some (sX u a b c (nI r) (nI (spk (Lm u r) n m l).2) (spk (Lm u r) n m l).1)
  | f, l, a, b, c, m, hf, hl, G, hG => by
    match G, hG with
    | 0, hG => omega
    | G + 1, hG =>
    unfold lp
    have hb : g_X10_simPokes_l0 F (sX u a b c (nI r) (nI l) m) = if l < n ∧ (Lm u r).2.1 l = 2 ∧ (Lm u r).1 l = m 133 then some (.inl (sX u a b c (nI r) (nI (l + 1)) (mput m (tn ((Lm u r).2.2.2.1 l)) ((Lm u r).2.2.2.2 l) ((Lm u r).2.2.1 l)))) else some (.inr (sX u a b c (nI r) (nI l) m)) := by
      unfold g_X10_simPokes_l0
      rw [sX_41, sX_42, ck_t (inb_nI hr (by decide)), rA_nI (by omega), sX_An (by decide), hn]
      by_cases q0 : l < n
      · rw [if_neg (nI_ge q0 (by omega)), show (800 : Int32) * nI r = nI (800 * r) from pk_mul 800 r, nI_add, ck_t (inb_nI (by omega) (by decide)), ck_t (inb_nI (by omega) (by decide)), ck_t (inb_nI (by omega) (by decide)), ck_t (inb_nI (by omega) (by decide)), ck_t (inb_nI (by omega) (by decide))]
        simp only [rA_nI (show 800 * r + l < 2 ^ 31 by omega), sX_An (show (10 : Nat) ≠ 31 by decide), sX_An (show (11 : Nat) ≠ 31 by decide), sX_An (show (12 : Nat) ≠ 31 by decide), sX_An (show (13 : Nat) ≠ 31 by decide), sX_An (show (14 : Nat) ≠ 31 by decide)]
        rw [show rA (sX u a b c (nI r) (nI l) m) 31 133 = m 133 from congrFun sX_A _, ck_t (by decide)]
        have d0 : (Lm u r).1 l = u.2.1 10 (800 * r + l) := Lm_0 (by omega)
        have d1 : (Lm u r).2.1 l = u.2.1 11 (800 * r + l) := Lm_1 (by omega)
        have d2 : (Lm u r).2.2.1 l = u.2.1 12 (800 * r + l) := Lm_2 (by omega)
        have d3 : (Lm u r).2.2.2.1 l = u.2.1 13 (800 * r + l) := Lm_3 (by omega)
        have d4 : (Lm u r).2.2.2.2 l = u.2.1 14 (800 * r + l) := Lm_4 (by omega)
        rw [← d0, ← d1, ← d2, ← d3, ← d4]
        by_cases q1 : (Lm u r).2.1 l = 2
        · rw [if_pos q1]
          by_cases q2 : (Lm u r).1 l = m 133
          · rw [if_pos q2, if_pos (show l < n ∧ (Lm u r).2.1 l = 2 ∧ (Lm u r).1 l = m 133 from ⟨q0, q1, q2⟩)]
            obtain ⟨p, hp, ep⟩ := hL l q0 q1
            rw [ep, m_puts2 hp, ob_i, lt1_i, sX_A, sX_row, sX_42, nI_1, sX_s42, tnn (by omega)]
          · rw [if_neg q2, if_neg (fun z => q2 z.2.2)]
        · rw [if_neg q1, if_neg (fun z => q1 z.2.1)]
      · rw [if_pos (nI_le (by omega) (by omega)), if_neg (fun z => q0 z.1)]
    rw [hb]
    by_cases h : l < n ∧ (Lm u r).2.1 l = 2 ∧ (Lm u r).1 l = m 133
    · rw [if_pos h, spk_yes h]
      match f, hf with
      | 0, hf => omega
      | f + 1, hf => exact m_simPokes hr hn hn8 hL hF f (l + 1) a b c _ (by omega) (by omega) G (by omega)
    · rw [if_neg h, spk_no h]
