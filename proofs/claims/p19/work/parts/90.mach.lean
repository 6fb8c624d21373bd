/-! THE MACHINE: a row of 134 ints, one step, as a function; and that the reference's steps are it -/
abbrev Row : Type := Nat → Int32
abbrev tn (x : Int32) : Nat := x.toNatClampNeg
theorem tnn {p : Nat} (h : p < 2 ^ 31) : tn (nI p) = p := nI_clamp h
def rw_ (u : rg_U) (o : Nat) (m : Row) : rg_U := (u.1, va_up u.2.1 o m, u.2.2)
def fl3 (u : rg_U) (a b c : Int32) : rg_U := (upd (upd (upd u.1 37 a) 38 b) 39 c, u.2)
def sT (u : rg_U) (o : Nat) (m : Row) (a b c : Int32) : rg_U := rw_ (fl3 u a b c) o m
theorem va_same {α : Type} {f : Nat → α} {k : Nat} : va_up f k (f k) = f := by
  funext i
  unfold va_up
  by_cases h : i = k
  · rw [if_pos h, h]
  · rw [if_neg h]
theorem va_twice {α : Type} {f : Nat → α} {k : Nat} {a b : α} : va_up (va_up f k a) k b = va_up f k b := by
  funext i
  unfold va_up
  by_cases h : i = k
  · rw [if_pos h, if_pos h]
  · rw [if_neg h, if_neg h, if_neg h]
theorem rw_at {u : rg_U} {o : Nat} {m : Row} : (rw_ u o m).2.1 o = m := pm_up_s
theorem rw_ne {u : rg_U} {o j : Nat} {m : Row} (h : j ≠ o) : (rw_ u o m).2.1 j = u.2.1 j := pm_up_n h
theorem rw_id {u : rg_U} {o : Nat} : rw_ u o (u.2.1 o) = u := by
  unfold rw_
  rw [va_same]
theorem rA_sT {u : rg_U} {o : Nat} {m : Row} {a b c i : Int32} : rA (sT u o m a b c) o i = m (tn i) := congrFun rw_at _
theorem rA_sTn {u : rg_U} {o j : Nat} {m : Row} {a b c i : Int32} (h : j ≠ o) : rA (sT u o m a b c) j i = u.2.1 j (tn i) := congrFun (rw_ne h) _
theorem sA_sT {u : rg_U} {o : Nat} {m : Row} {a b c i v : Int32} : sA (sT u o m a b c) o i v = sT u o (upd m (tn i) v) a b c := by
  unfold sA rg_R sT
  rw [rw_at]
  unfold rw_
  dsimp only
  rw [va_twice]
theorem upd2 {f : Nat → Int32} {k : Nat} {a b : Int32} : upd (upd f k a) k b = upd f k b := by
  funext i
  unfold upd
  by_cases h : i = k
  · rw [if_pos h, if_pos h]
  · rw [if_neg h, if_neg h, if_neg h]
theorem upd_c {f : Nat → Int32} {k l : Nat} {a b : Int32} (h : k ≠ l) : upd (upd f k a) l b = upd (upd f l b) k a := by
  funext i
  unfold upd
  by_cases h1 : i = k
  · rw [if_pos h1, if_neg (fun q => h (h1.symm.trans q)), if_pos h1]
  · rw [if_neg h1]
    by_cases h2 : i = l
    · rw [if_pos h2, if_neg h1]
    · rw [if_neg h2, if_neg h1]
theorem sF_37 {u : rg_U} {o : Nat} {m : Row} {a b c v : Int32} : sF (sT u o m a b c) 0 37 v = sT u o m v b c := by
  unfold sF rg_F sT rw_ fl3
  dsimp only
  rw [show 100 * 0 + 37 = 37 from rfl, upd_c (k := 39) (l := 37) (by decide), upd_c (k := 38) (l := 37) (by decide), upd2]
theorem sF_38 {u : rg_U} {o : Nat} {m : Row} {a b c v : Int32} : sF (sT u o m a b c) 0 38 v = sT u o m a v c := by
  unfold sF rg_F sT rw_ fl3
  dsimp only
  rw [show 100 * 0 + 38 = 38 from rfl, upd_c (k := 39) (l := 38) (by decide), upd2]
theorem sF_39 {u : rg_U} {o : Nat} {m : Row} {a b c v : Int32} : sF (sT u o m a b c) 0 39 v = sT u o m a b v := by
  unfold sF rg_F sT rw_ fl3
  dsimp only
  rw [show 100 * 0 + 39 = 39 from rfl, upd2]
theorem sT_0 {u : rg_U} {o : Nat} {a b c : Int32} : sF (sF (sF u 0 37 a) 0 38 b) 0 39 c = sT u o (u.2.1 o) a b c := by
  unfold sT rw_ fl3
  dsimp only
  rw [va_same]
  rfl
def mput (m : Row) (p : Nat) (s n : Int32) : Row := upd (upd (upd m (80 + p) (m (80 + p) + (if m p = s ∧ m (40 + p) = n then 0 else 1))) p s) (40 + p) n
theorem c0 {p : Nat} : (0 : Int32) + nI p = nI p := (nI_add 0 p).trans (by rw [Nat.zero_add])
theorem c40 {p : Nat} : (40 : Int32) + nI p = nI (40 + p) := nI_add 40 p
theorem c80 {p : Nat} : (80 : Int32) + nI p = nI (80 + p) := nI_add 80 p
theorem c8 {p : Nat} : (8 : Int32) + nI p = nI (8 + p) := nI_add 8 p
theorem c122 {p : Nat} : (122 : Int32) + nI p = nI (122 + p) := nI_add 122 p
theorem m_puts {F o p : Nat} {s n a b c : Int32} {u : rg_U} {m : Row} (hp : p < 40) : g_X10_puts F o 134 (nI p) s n (sT u o m a b c) = some (sT u o (mput m p s n) a b c) := by
  unfold g_X10_puts
  rw [c0, c40, c80, ck_t (inb_nI (by omega) (by decide)), ck_t (inb_nI (by omega) (by decide)), ck_t (inb_nI (by omega) (by decide))]
  unfold g_X10_puts_j26 g_X10_puts_j31
  rw [c0, c40]
  simp only [lt1_i, ck_t (inb_nI (show p < 134 by omega) (by decide)), ck_t (inb_nI (show 40 + p < 134 by omega) (by decide)), ck_t (inb_nI (show 80 + p < 134 by omega) (by decide)), rA_sT, sA_sT, nI_clamp (show p < 2 ^ 31 by omega), nI_clamp (show 40 + p < 2 ^ 31 by omega), nI_clamp (show 80 + p < 2 ^ 31 by omega)]
  unfold mput
  by_cases h1 : m p = s
  · by_cases h2 : m (40 + p) = n
    · rw [if_pos h1, if_pos h2, if_pos ⟨h1, h2⟩]; rfl
    · rw [if_pos h1, if_neg h2, if_neg (fun q => h2 q.2)]; rfl
  · rw [if_neg h1, if_neg (fun q => h1 q.1)]; rfl
theorem m_gives {F o p : Nat} {s n a b c : Int32} {u : rg_U} {m : Row} (hp : p < 40) : g_X10_gives F o 134 (nI p) s n (sT u o m a b c) = some (sT u o (mput m p s n) a b (nI p)) := by
  unfold g_X10_gives
  rw [lt1_i, sF_39, m_puts hp, ob_i]
theorem m_traps {F o : Nat} {k a b c : Int32} {u : rg_U} {m : Row} : g_X10_traps F o 134 k (sT u o m a b c) = some (sT u o (upd m 132 (10 + k)) k b c) := by
  unfold g_X10_traps
  rw [lt1_i, sF_37, ck_t (by decide), lt1_i, sA_sT]
  rfl
theorem m_isOf {F o p : Nat} {s a b c : Int32} {u : rg_U} {m : Row} (hp : p < 40) : g_X10_isOf F o 134 (nI p) s (sT u o m a b c) = some (if m p = s then 1 else 0) := by
  unfold g_X10_isOf
  rw [c0, ck_t (inb_nI (by omega) (by decide)), rA_sT, tnn (by omega)]
  by_cases h : m p = s
  · rw [if_pos h, if_pos h]
  · rw [if_neg h, if_neg h]
abbrev MSt : Type := Row × Int32 × Int32 × Int32
def mtrp (m : Row) (k : Int32) : MSt := (upd m 132 (10 + k), k, -1, -1)
def mgiv (m : Row) (p : Nat) (s n : Int32) : MSt := (mput m p s n, 0, -1, nI p)
def mreck (m : Row) (k : Nat) (a b c : Nat) : MSt :=
  if ¬ m b = 2 ∨ ¬ m c = 2 then mtrp m 1
  else if (k = 7 ∨ k = 8) ∧ m (40 + c) = 0 then mtrp m 2
  else if k = 9 then mgiv m a 1 (if m (40 + b) < m (40 + c) then 1 else 0)
  else mgiv m a 2 (if k = 4 then m (40 + b) + m (40 + c) else if k = 5 then m (40 + b) - m (40 + c) else if k = 6 then m (40 + b) * m (40 + c) else if k = 7 then m (40 + b) / m (40 + c) else dx_rem (m (40 + b)) (m (40 + c)))
def mcel (m : Row) (by_ : Nat) (f : Nat → MSt) : MSt :=
  if m by_ = 2 then (if 0 ≤ m (40 + by_) ∧ m (40 + by_) ≤ 31 then f (8 + tn (m (40 + by_))) else mtrp m 3) else mtrp m 1
def mdo (m : Row) (k : Nat) (a b c num en : Int32) : MSt := match k with
  | 0 => (upd m 132 2, 0, -1, -1)
  | 1 => mgiv m (tn a) 2 b
  | 2 => mgiv m (tn a) 1 b
  | 3 => mgiv m (tn a) (m (tn b)) (m (40 + tn b))
  | 10 => mgiv m (tn a) 1 (if m (tn b) = m (tn c) ∧ m (40 + tn b) = m (40 + tn c) then 1 else 0)
  | 11 => if m (tn b) = 1 then mgiv m (tn a) 1 (1 - m (40 + tn b)) else mtrp m 1
  | 12 => if m (tn b) = 1 ∧ m (tn c) = 1 then mgiv m (tn a) 1 (m (40 + tn b) &&& m (40 + tn c)) else mtrp m 1
  | 13 => mcel m (tn b) (fun p => mgiv m (tn a) (m p) (m (40 + p)))
  | 14 => mcel m (tn a) (fun p => mgiv m p (m (tn b)) (m (40 + tn b)))
  | 15 => (upd m 120 a, 0, -1, -1)
  | 16 => if m (tn a) = 1 then ((if m (40 + tn a) = 1 then upd m 120 b else m), 0, -1, -1) else mtrp m 1
  | 17 => if m 121 = 8 then mtrp m 4 else (upd (upd (upd m (122 + tn (m 121)) (m 120)) 121 (m 121 + 1)) 120 a, 0, -1, -1)
  | 18 => if m 121 = 0 then (upd m 132 2, 0, -1, -1) else (upd (upd m 121 (m 121 - 1)) 120 (m (122 + tn (m 121 - 1))), 0, -1, -1)
  | 19 => (mput m (tn a) 2 num, 0, en, a)
  | 20 => (mput m (tn a) 2 num, 0, en, a)
  | 21 => (upd (upd m 130 (m 130 + 1)) 131 (31 * m 131 + 3 * m (40 + tn a) + m (tn a)), 0, -1, -1)
  | 22 => mgiv m (tn a) 0 0
  | k => mreck m k (tn a) (tn b) (tn c)
def sTp (u : rg_U) (o : Nat) (z : MSt) : rg_U := sT u o z.1 z.2.1 z.2.2.1 z.2.2.2
