/-! THE LAW, GENERIC IN AN INVARIANT (wip/gen/law.py) -/
theorem lw_cmp {L k : Nat} (hL : L < 2 ^ 30) (hk : k < 2 ^ 30) : nI L - 6 < nI k ↔ L < k + 6 := by
  rw [Int32.lt_iff_toInt_lt, Int32.toInt_sub, nI_toInt (by omega), nI_toInt (by omega)]
  have h6 : (6 : Int32).toInt = 6 := by decide
  rw [h6, Int.bmod_eq_of_le (by omega) (by omega)]
  omega
def lf1 (g : rg_U → Option Int32) : rg_U → Option (Int32 × rg_U) := fun u => ob (g u) (fun r => some (r, u))
theorem lf1_some {g : rg_U → Option Int32} {u : rg_U} {z : Int32 × rg_U} (h : lf1 g u = some z) : g u = some z.1 ∧ z.2 = u := by
  unfold lf1 at h
  obtain ⟨r, h1, h2⟩ := ob_some h
  cases h2
  exact ⟨h1, rfl⟩
/-- one call on both: they return, the answers are the same (where they are compared), the invariant holds behind it -/
def SC2 (gc gm : rg_U → Option (Int32 × rg_U)) (cmp : Bool) (I J : rg_U → rg_U → Prop) : Prop := ∀ uc um, I uc um → ∃ (zc zm : Int32 × rg_U), gc uc = some zc ∧ gm um = some zm ∧ (cmp = true → zc.1 = zm.1) ∧ J zc.2 zm.2
def gs_L : List String := ["ASKS_OF_A", "ASKS_OF_B", "ASKS_OF_C"]
def ro_L (L : Nat) (xs : Nat → Int32) : pm_RO := fun k => if k = 1000000 then some (23, askA) else if k = 1000001 then some (23, askB) else if k = 1000002 then some (23, askC) else if k = 2000000 then some (L, xs) else none
theorem st_L {L : Nat} {xs : Nat → Int32} : st_ok gs_L (ro_L L xs) := ⟨rfl, rfl, rfl, rfl, rfl, rfl⟩
def LawSteps (F : Nat) (cmp : Nat → Bool) (I J : rg_U → rg_U → Prop) : Prop := ∀ a1 a2 a3 a4 a5 : Int32,
  SC2 (g_X9_code F a1 a2 a3 a4 a5) (g_X10_code F a1 a2 a3 a4 a5) (cmp 0) I J ∧
  SC2 (g_X9_spacing F a1 a2) (g_X10_spacing F a1 a2) (cmp 1) I J ∧
  SC2 (g_X9_begin F) (g_X10_begin F) (cmp 2) I J ∧
  SC2 (g_X9_give F a1) (g_X10_give F a1) (cmp 3) I J ∧
  SC2 (g_X9_seed F a1) (g_X10_seed F a1) (cmp 4) I J ∧
  SC2 (g_X9_poke F a1 a2 a3) (g_X10_poke F a1 a2 a3) (cmp 5) I J ∧
  SC2 (g_X9_run F a1) (g_X10_run F a1) (cmp 6) I J ∧
  SC2 (g_X9_watch F a1 (if a2 = 0 then 0 else 1)) (g_X10_watch F a1 (if a2 = 0 then 0 else 1)) (cmp 7) I J ∧
  SC2 (g_X9_back F a1) (g_X10_back F a1) (cmp 8) I J ∧
  SC2 (g_X9_keep F) (g_X10_keep F) (cmp 9) I J ∧
  SC2 (g_X9_use F a1) (g_X10_use F a1) (cmp 10) I J ∧
  SC2 (g_X9_at F a1 a2 a3) (g_X10_at F a1 a2 a3) (cmp 11) I J ∧
  SC2 (g_X9_state F a1 a2) (g_X10_state F a1 a2) (cmp 12) I J ∧
  SC2 (g_X9_last F a1 a2) (g_X10_last F a1 a2) (cmp 13) I J ∧
  SC2 (g_X9_when F a1 a2 a3 a4) (g_X10_when F a1 a2 a3 a4) (cmp 14) I J ∧
  SC2 (g_X9_changed F a1 a2) (g_X10_changed F a1 a2) (cmp 15) I J ∧
  SC2 (g_X9_watched F a1) (g_X10_watched F a1) (cmp 16) I J ∧
  SC2 (g_X9_rests F a1 a2 a3) (g_X10_rests F a1 a2 a3) (cmp 17) I J ∧
  SC2 (g_X9_hangs F a1 a2 a3) (g_X10_hangs F a1 a2 a3) (cmp 18) I J ∧
  SC2 (lf1 (g_X9_history F a1 a2 a3)) (g_X10_history F a1 a2 a3) (cmp 19) I J ∧
  SC2 (lf1 (g_X9_done F a1 a2)) (g_X10_done F a1 a2) (cmp 20) I J ∧
  SC2 (lf1 (g_X9_call F a1 a2)) (lf1 (g_X10_call F a1 a2)) (cmp 21) I J ∧
  SC2 (lf1 (g_X9_log F a1 a2)) (lf1 (g_X10_log F a1 a2)) (cmp 22) I J ∧
  SC2 (lf1 (g_X9_held F a1 a2)) (lf1 (g_X10_held F a1 a2)) (cmp 23) I J ∧
  SC2 (lf1 (g_X9_would F a1 a2 a3)) (lf1 (g_X10_would F a1 a2 a3)) (cmp 24) I J ∧
  SC2 (lf1 (g_X9_gap F a1 a2 a3)) (lf1 (g_X10_gap F a1 a2 a3)) (cmp 25) I J ∧
  SC2 (lf1 (g_X9_sparing F a1 a2 a3)) (lf1 (g_X10_sparing F a1 a2 a3)) (cmp 26) I J ∧
  SC2 (g_X9_align F a1 a2) (g_X10_align F a1 a2) (cmp 27) I J ∧
  SC2 (g_X9_pair F a1 a2 a3 a4) (g_X10_pair F a1 a2 a3 a4) (cmp 28) I J ∧
  SC2 (g_X9_parts F a1 a2) (g_X10_parts F a1 a2) (cmp 29) I J ∧
  SC2 (lf1 (g_X9_look F a1)) (lf1 (g_X10_look F a1)) (cmp 30) I J
theorem ls_code {F : Nat} {cmp : Nat → Bool} {I J : rg_U → rg_U → Prop} (h : LawSteps F cmp I J) (a1 a2 a3 a4 a5 : Int32) : SC2 (g_X9_code F a1 a2 a3 a4 a5) (g_X10_code F a1 a2 a3 a4 a5) (cmp 0) I J := (h a1 a2 a3 a4 a5).1
theorem ls_spacing {F : Nat} {cmp : Nat → Bool} {I J : rg_U → rg_U → Prop} (h : LawSteps F cmp I J) (a1 a2 a3 a4 a5 : Int32) : SC2 (g_X9_spacing F a1 a2) (g_X10_spacing F a1 a2) (cmp 1) I J := (h a1 a2 a3 a4 a5).2.1
theorem ls_begin {F : Nat} {cmp : Nat → Bool} {I J : rg_U → rg_U → Prop} (h : LawSteps F cmp I J) (a1 a2 a3 a4 a5 : Int32) : SC2 (g_X9_begin F) (g_X10_begin F) (cmp 2) I J := (h a1 a2 a3 a4 a5).2.2.1
theorem ls_give {F : Nat} {cmp : Nat → Bool} {I J : rg_U → rg_U → Prop} (h : LawSteps F cmp I J) (a1 a2 a3 a4 a5 : Int32) : SC2 (g_X9_give F a1) (g_X10_give F a1) (cmp 3) I J := (h a1 a2 a3 a4 a5).2.2.2.1
theorem ls_seed {F : Nat} {cmp : Nat → Bool} {I J : rg_U → rg_U → Prop} (h : LawSteps F cmp I J) (a1 a2 a3 a4 a5 : Int32) : SC2 (g_X9_seed F a1) (g_X10_seed F a1) (cmp 4) I J := (h a1 a2 a3 a4 a5).2.2.2.2.1
theorem ls_poke {F : Nat} {cmp : Nat → Bool} {I J : rg_U → rg_U → Prop} (h : LawSteps F cmp I J) (a1 a2 a3 a4 a5 : Int32) : SC2 (g_X9_poke F a1 a2 a3) (g_X10_poke F a1 a2 a3) (cmp 5) I J := (h a1 a2 a3 a4 a5).2.2.2.2.2.1
theorem ls_run {F : Nat} {cmp : Nat → Bool} {I J : rg_U → rg_U → Prop} (h : LawSteps F cmp I J) (a1 a2 a3 a4 a5 : Int32) : SC2 (g_X9_run F a1) (g_X10_run F a1) (cmp 6) I J := (h a1 a2 a3 a4 a5).2.2.2.2.2.2.1
theorem ls_watch {F : Nat} {cmp : Nat → Bool} {I J : rg_U → rg_U → Prop} (h : LawSteps F cmp I J) (a1 a2 a3 a4 a5 : Int32) : SC2 (g_X9_watch F a1 (if a2 = 0 then 0 else 1)) (g_X10_watch F a1 (if a2 = 0 then 0 else 1)) (cmp 7) I J := (h a1 a2 a3 a4 a5).2.2.2.2.2.2.2.1
theorem ls_back {F : Nat} {cmp : Nat → Bool} {I J : rg_U → rg_U → Prop} (h : LawSteps F cmp I J) (a1 a2 a3 a4 a5 : Int32) : SC2 (g_X9_back F a1) (g_X10_back F a1) (cmp 8) I J := (h a1 a2 a3 a4 a5).2.2.2.2.2.2.2.2.1
theorem ls_keep {F : Nat} {cmp : Nat → Bool} {I J : rg_U → rg_U → Prop} (h : LawSteps F cmp I J) (a1 a2 a3 a4 a5 : Int32) : SC2 (g_X9_keep F) (g_X10_keep F) (cmp 9) I J := (h a1 a2 a3 a4 a5).2.2.2.2.2.2.2.2.2.1
theorem ls_use {F : Nat} {cmp : Nat → Bool} {I J : rg_U → rg_U → Prop} (h : LawSteps F cmp I J) (a1 a2 a3 a4 a5 : Int32) : SC2 (g_X9_use F a1) (g_X10_use F a1) (cmp 10) I J := (h a1 a2 a3 a4 a5).2.2.2.2.2.2.2.2.2.2.1
theorem ls_at {F : Nat} {cmp : Nat → Bool} {I J : rg_U → rg_U → Prop} (h : LawSteps F cmp I J) (a1 a2 a3 a4 a5 : Int32) : SC2 (g_X9_at F a1 a2 a3) (g_X10_at F a1 a2 a3) (cmp 11) I J := (h a1 a2 a3 a4 a5).2.2.2.2.2.2.2.2.2.2.2.1
theorem ls_state {F : Nat} {cmp : Nat → Bool} {I J : rg_U → rg_U → Prop} (h : LawSteps F cmp I J) (a1 a2 a3 a4 a5 : Int32) : SC2 (g_X9_state F a1 a2) (g_X10_state F a1 a2) (cmp 12) I J := (h a1 a2 a3 a4 a5).2.2.2.2.2.2.2.2.2.2.2.2.1
theorem ls_last {F : Nat} {cmp : Nat → Bool} {I J : rg_U → rg_U → Prop} (h : LawSteps F cmp I J) (a1 a2 a3 a4 a5 : Int32) : SC2 (g_X9_last F a1 a2) (g_X10_last F a1 a2) (cmp 13) I J := (h a1 a2 a3 a4 a5).2.2.2.2.2.2.2.2.2.2.2.2.2.1
theorem ls_when {F : Nat} {cmp : Nat → Bool} {I J : rg_U → rg_U → Prop} (h : LawSteps F cmp I J) (a1 a2 a3 a4 a5 : Int32) : SC2 (g_X9_when F a1 a2 a3 a4) (g_X10_when F a1 a2 a3 a4) (cmp 14) I J := (h a1 a2 a3 a4 a5).2.2.2.2.2.2.2.2.2.2.2.2.2.2.1
theorem ls_changed {F : Nat} {cmp : Nat → Bool} {I J : rg_U → rg_U → Prop} (h : LawSteps F cmp I J) (a1 a2 a3 a4 a5 : Int32) : SC2 (g_X9_changed F a1 a2) (g_X10_changed F a1 a2) (cmp 15) I J := (h a1 a2 a3 a4 a5).2.2.2.2.2.2.2.2.2.2.2.2.2.2.2.1
theorem ls_watched {F : Nat} {cmp : Nat → Bool} {I J : rg_U → rg_U → Prop} (h : LawSteps F cmp I J) (a1 a2 a3 a4 a5 : Int32) : SC2 (g_X9_watched F a1) (g_X10_watched F a1) (cmp 16) I J := (h a1 a2 a3 a4 a5).2.2.2.2.2.2.2.2.2.2.2.2.2.2.2.2.1
theorem ls_rests {F : Nat} {cmp : Nat → Bool} {I J : rg_U → rg_U → Prop} (h : LawSteps F cmp I J) (a1 a2 a3 a4 a5 : Int32) : SC2 (g_X9_rests F a1 a2 a3) (g_X10_rests F a1 a2 a3) (cmp 17) I J := (h a1 a2 a3 a4 a5).2.2.2.2.2.2.2.2.2.2.2.2.2.2.2.2.2.1
theorem ls_hangs {F : Nat} {cmp : Nat → Bool} {I J : rg_U → rg_U → Prop} (h : LawSteps F cmp I J) (a1 a2 a3 a4 a5 : Int32) : SC2 (g_X9_hangs F a1 a2 a3) (g_X10_hangs F a1 a2 a3) (cmp 18) I J := (h a1 a2 a3 a4 a5).2.2.2.2.2.2.2.2.2.2.2.2.2.2.2.2.2.2.1
theorem ls_history {F : Nat} {cmp : Nat → Bool} {I J : rg_U → rg_U → Prop} (h : LawSteps F cmp I J) (a1 a2 a3 a4 a5 : Int32) : SC2 (lf1 (g_X9_history F a1 a2 a3)) (g_X10_history F a1 a2 a3) (cmp 19) I J := (h a1 a2 a3 a4 a5).2.2.2.2.2.2.2.2.2.2.2.2.2.2.2.2.2.2.2.1
theorem ls_done {F : Nat} {cmp : Nat → Bool} {I J : rg_U → rg_U → Prop} (h : LawSteps F cmp I J) (a1 a2 a3 a4 a5 : Int32) : SC2 (lf1 (g_X9_done F a1 a2)) (g_X10_done F a1 a2) (cmp 20) I J := (h a1 a2 a3 a4 a5).2.2.2.2.2.2.2.2.2.2.2.2.2.2.2.2.2.2.2.2.1
theorem ls_call {F : Nat} {cmp : Nat → Bool} {I J : rg_U → rg_U → Prop} (h : LawSteps F cmp I J) (a1 a2 a3 a4 a5 : Int32) : SC2 (lf1 (g_X9_call F a1 a2)) (lf1 (g_X10_call F a1 a2)) (cmp 21) I J := (h a1 a2 a3 a4 a5).2.2.2.2.2.2.2.2.2.2.2.2.2.2.2.2.2.2.2.2.2.1
theorem ls_log {F : Nat} {cmp : Nat → Bool} {I J : rg_U → rg_U → Prop} (h : LawSteps F cmp I J) (a1 a2 a3 a4 a5 : Int32) : SC2 (lf1 (g_X9_log F a1 a2)) (lf1 (g_X10_log F a1 a2)) (cmp 22) I J := (h a1 a2 a3 a4 a5).2.2.2.2.2.2.2.2.2.2.2.2.2.2.2.2.2.2.2.2.2.2.1
theorem ls_held {F : Nat} {cmp : Nat → Bool} {I J : rg_U → rg_U → Prop} (h : LawSteps F cmp I J) (a1 a2 a3 a4 a5 : Int32) : SC2 (lf1 (g_X9_held F a1 a2)) (lf1 (g_X10_held F a1 a2)) (cmp 23) I J := (h a1 a2 a3 a4 a5).2.2.2.2.2.2.2.2.2.2.2.2.2.2.2.2.2.2.2.2.2.2.2.1
theorem ls_would {F : Nat} {cmp : Nat → Bool} {I J : rg_U → rg_U → Prop} (h : LawSteps F cmp I J) (a1 a2 a3 a4 a5 : Int32) : SC2 (lf1 (g_X9_would F a1 a2 a3)) (lf1 (g_X10_would F a1 a2 a3)) (cmp 24) I J := (h a1 a2 a3 a4 a5).2.2.2.2.2.2.2.2.2.2.2.2.2.2.2.2.2.2.2.2.2.2.2.2.1
theorem ls_gap {F : Nat} {cmp : Nat → Bool} {I J : rg_U → rg_U → Prop} (h : LawSteps F cmp I J) (a1 a2 a3 a4 a5 : Int32) : SC2 (lf1 (g_X9_gap F a1 a2 a3)) (lf1 (g_X10_gap F a1 a2 a3)) (cmp 25) I J := (h a1 a2 a3 a4 a5).2.2.2.2.2.2.2.2.2.2.2.2.2.2.2.2.2.2.2.2.2.2.2.2.2.1
theorem ls_sparing {F : Nat} {cmp : Nat → Bool} {I J : rg_U → rg_U → Prop} (h : LawSteps F cmp I J) (a1 a2 a3 a4 a5 : Int32) : SC2 (lf1 (g_X9_sparing F a1 a2 a3)) (lf1 (g_X10_sparing F a1 a2 a3)) (cmp 26) I J := (h a1 a2 a3 a4 a5).2.2.2.2.2.2.2.2.2.2.2.2.2.2.2.2.2.2.2.2.2.2.2.2.2.2.1
theorem ls_align {F : Nat} {cmp : Nat → Bool} {I J : rg_U → rg_U → Prop} (h : LawSteps F cmp I J) (a1 a2 a3 a4 a5 : Int32) : SC2 (g_X9_align F a1 a2) (g_X10_align F a1 a2) (cmp 27) I J := (h a1 a2 a3 a4 a5).2.2.2.2.2.2.2.2.2.2.2.2.2.2.2.2.2.2.2.2.2.2.2.2.2.2.2.1
theorem ls_pair {F : Nat} {cmp : Nat → Bool} {I J : rg_U → rg_U → Prop} (h : LawSteps F cmp I J) (a1 a2 a3 a4 a5 : Int32) : SC2 (g_X9_pair F a1 a2 a3 a4) (g_X10_pair F a1 a2 a3 a4) (cmp 28) I J := (h a1 a2 a3 a4 a5).2.2.2.2.2.2.2.2.2.2.2.2.2.2.2.2.2.2.2.2.2.2.2.2.2.2.2.2.1
theorem ls_parts {F : Nat} {cmp : Nat → Bool} {I J : rg_U → rg_U → Prop} (h : LawSteps F cmp I J) (a1 a2 a3 a4 a5 : Int32) : SC2 (g_X9_parts F a1 a2) (g_X10_parts F a1 a2) (cmp 29) I J := (h a1 a2 a3 a4 a5).2.2.2.2.2.2.2.2.2.2.2.2.2.2.2.2.2.2.2.2.2.2.2.2.2.2.2.2.2.1
theorem ls_look {F : Nat} {cmp : Nat → Bool} {I J : rg_U → rg_U → Prop} (h : LawSteps F cmp I J) (a1 a2 a3 a4 a5 : Int32) : SC2 (lf1 (g_X9_look F a1)) (lf1 (g_X10_look F a1)) (cmp 30) I J := (h a1 a2 a3 a4 a5).2.2.2.2.2.2.2.2.2.2.2.2.2.2.2.2.2.2.2.2.2.2.2.2.2.2.2.2.2.2
section LWT
variable {gs : List String} {ro : pm_RO} {M Mc : pm_M} {d dc mc ms c0 s0 mcc msc pc : Nat} {L : List (Option Value)} {st : List Value} {n : Nat} {w : Nat → va_E} {Q : Option Value → Nat → (Nat → va_E) → Prop} {shL : List rg_S} {uL : rg_U}
theorem rg_mkT {idx idx2 ci N size : Nat} {C : String} {T : u_T} {ty : Nat → FieldType} {fs : List Value} {t0 : List Nat} (hd1 : decode M.2.1 pc = .ok (.new idx, 3)) (hd2 : decode M.2.1 (pc + 3) = .ok (.dup, 1)) (hd3 : decode M.2.1 (pc + 3 + 1) = .ok (.invokespecial idx2, 3)) (hcl : pm_cl ci C T N ty) (h1 : Cond.classLink M.1.cls idx C ∈ lw_g) (h2 : Cond.instantiable C N ∈ lw_g) (h3 : Cond.initialized C ∈ lw_g) (hfs : ∀ j, j < N → defaultValue (ty j) = vp_V fs j) (hfs2 : fs.all (fun v => match v with | .ref _ => false | _ => true) = true) (hl : pm_lI M.1.cls idx2 Mc 0) (hdd : dc + 1 ≤ d) (hc : c0 + 1 + mcc ≤ mc) (hs : s0 + N + msc ≤ ms) (hst : ((Value.ref n :: st).map fun v => v.category).sum ≤ 8) (hn : n + 1 < 1000000) (hfs3 : (Sum.inr (ci, fs) : va_E) = rg_e n rg_Z 0 (.inl (ci, t0))) (ht0 : rg_wf [.inl (ci, t0)] = true)
    (hM : ∀ w1, rg [.inl (ci, t0)] n rg_Z (n + 1) w1 → pm_Met gs ro Mc dc mcc msc [.ref (n + 0)] (n + 1) w1 (fun rr n1 w2 => rr = none ∧ n1 = n + size ∧ rg shL n uL (n + size) w2 ∧ ∀ k, k < n → w2 k = w1 k))
    (kk : ∀ w', rg shL n uL (n + size) w' → (∀ k, k < n → w' k = w k) → pm_X gs ro M d mc ms (c0 + 1 + mcc) (s0 + N + msc) (pc + 3 + 1 + 3) L (.ref (n + 0) :: st) (n + size) w' Q) : pm_X gs ro M d mc ms c0 s0 pc L st n w Q := by
  refine pm_new hd1 hcl h1 h2 h3 hfs hfs2 (by omega) (by omega) hn ?_
  refine pm_dup hd2 rfl ?_
  refine pm_callI (As := []) (st := .ref n :: st) hd3 hl (Nat.lt_succ_self _) (fun _ _ q => q) hdd hc hs hst rfl (hM _ (mk_one hfs3 ht0)) (fun r n' w' hq _ => ?_)
  obtain ⟨rfl, rfl, hRL, hlow⟩ := hq
  exact kk w' hRL (fun k hk => by rw [hlow k hk, pm_up_n (by omega)])
end LWT
theorem shM_eq : shL_RunsBackModel = shM := rfl
theorem shC_eq : shL_RunsBack = shC := by decide +kernel
