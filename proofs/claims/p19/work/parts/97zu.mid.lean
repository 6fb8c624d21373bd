/-! the class: a run in the midst of a step -/
/-- the stack of time t: on top lies the call that began at s -/
def KI (Cn Tp : Nat → Int32) (R : Nat → Row) (t : Nat) : Prop := ∃ d, d ≤ 8 ∧ R t 121 = nI d ∧ (d = 0 → Tp t = -1) ∧ ∀ e, d = e + 1 → ∃ s, s < t ∧ Tp t = nI s ∧ R t (122 + e) = Cn s + 1 ∧ R s 121 = nI e ∧ ∀ i, i < e → R s (122 + i) = R t (122 + i)
def SI (u : rg_U) (o : Nat) (R : Nat → Row) (t : Nat) : Prop := u.2.1 (o + 30) t = R t 120 ∧ u.2.1 (o + 31) t = R t 130 ∧ u.2.1 (o + 32) t = R t 131 ∧ KI (u.2.1 (o + 30)) (u.2.1 (o + 33)) R t
/-- rows up to T, and m behind it -/
def Rx (R : Nat → Row) (T : Nat) (m : Row) : Nat → Row := fun t => if t ≤ T then R t else m
theorem Rx_le {R : Nat → Row} {T t : Nat} {m : Row} (h : t ≤ T) : Rx R T m t = R t := if_pos h
theorem Rx_gt {R : Nat → Row} {T t : Nat} {m : Row} (h : T < t) : Rx R T m t = m := if_neg (by omega)
theorem KI_c {Cn Tp Cn' Tp' : Nat → Int32} {R R' : Nat → Row} {t : Nat} (h : KI Cn Tp R t) (hC : ∀ s, s < t → Cn' s = Cn s) (hT : Tp' t = Tp t) (hR : ∀ s, s ≤ t → R' s = R s) : KI Cn' Tp' R' t := by
  obtain ⟨d, h1, h2, h3, h4⟩ := h
  refine ⟨d, h1, by rw [hR t (Nat.le_refl _)]; exact h2, by rw [hT]; exact h3, fun e he => ?_⟩
  obtain ⟨s, a1, a2, a3, a4, a5⟩ := h4 e he
  exact ⟨s, a1, by rw [hT]; exact a2, by rw [hR t (Nat.le_refl _), hC s a1]; exact a3, by rw [hR s (by omega)]; exact a4, fun i hi => by rw [hR s (by omega), hR t (Nat.le_refl _)]; exact a5 i hi⟩
theorem SI_c {u u' : rg_U} {o t : Nat} {R R' : Nat → Row} (h : SI u o R t) (h30 : ∀ s, s ≤ t → u'.2.1 (o + 30) s = u.2.1 (o + 30) s) (h31 : u'.2.1 (o + 31) t = u.2.1 (o + 31) t) (h32 : u'.2.1 (o + 32) t = u.2.1 (o + 32) t) (h33 : u'.2.1 (o + 33) t = u.2.1 (o + 33) t) (hR : ∀ s, s ≤ t → R' s = R s) : SI u' o R' t := by
  obtain ⟨h1, h2, h3, h4⟩ := h
  refine ⟨?_, ?_, ?_, KI_c h4 (fun s hs => h30 s (by omega)) h33 hR⟩
  · rw [h30 t (Nat.le_refl _), hR t (Nat.le_refl _)]; exact h1
  · rw [h31, hR t (Nat.le_refl _)]; exact h2
  · rw [h32, hR t (Nat.le_refl _)]; exact h3
/-- behind time T the row is m, as far as the step has come; l t is how much of the log lies ahead of t -/
def MD (u : rg_U) (o T N : Nat) (R : Nat → Row) (l : Nat → Nat) (m : Row) : Prop := rF u o 9 = nI T ∧ T < 3000 ∧ (∀ t, t ≤ T + 1 → SI u o (Rx R T m) t) ∧ PI u (o + 12) (T + 1) N ∧ PRow u (o + 12) N m ∧ ∀ t, t ≤ T → PRow u (o + 12) (cP (u.2.1 (o + 13)) t N) (R t) ∧ cP (u.2.1 (o + 13)) t N ≤ t + l t
/-- what a step changes of a run, but for its log and its calls -/
def FS (u v : rg_U) (o : Nat) : Prop := v.2.2 = u.2.2 ∧ (∀ j, (j < o + 12 ∨ (o + 23 < j ∧ j < o + 30) ∨ o + 33 < j) → v.2.1 j = u.2.1 j) ∧ ∀ k, (k < 100 * o + 10 ∨ (100 * o + 11 < k ∧ k ≠ 100 * (o + 12) + 11)) → v.1 k = u.1 k
theorem FS_r {u : rg_U} {o : Nat} : FS u u o := ⟨rfl, fun _ _ => rfl, fun _ _ => rfl⟩
theorem FS_t {u v w : rg_U} {o : Nat} (h : FS u v o) (h2 : FS v w o) : FS u w o := ⟨h2.1.trans h.1, fun j hj => (h2.2.1 j hj).trans (h.2.1 j hj), fun k hk => (h2.2.2 k hk).trans (h.2.2 k hk)⟩
section XM
variable {F o T N p : Nat} {R : Nat → Row} {l : Nat → Nat} {m : Row} {u : rg_U} {x s n a b : Int32}
theorem FS_R {j i : Nat} (h : FS u u o) (hj : o + 12 ≤ j ∧ (j ≤ o + 23 ∨ (o + 30 ≤ j ∧ j ≤ o + 33))) : FS u (rg_R u j i x) o := ⟨rfl, fun j' hj' => R_n (by omega), fun _ _ => rfl⟩
theorem FS_11 : FS u (sF u o 11 x) o := ⟨rfl, fun _ _ => rfl, fun k hk => sF_n (by omega)⟩
theorem FS_10 : FS u (sF u o 10 x) o := ⟨rfl, fun _ _ => rfl, fun k hk => sF_n (by omega)⟩
theorem FS_add {q : Nat} {ch old : Int32} (hq : q = o + 12) : FS u (addS u q N p x s n ch old) o := ⟨rfl, fun j hj => addS_n (by omega), fun k hk => addS_f (by omega)⟩
theorem addS_N {q : Nat} {ch old : Int32} : rF (addS u q N p x s n ch old) q 11 = nI (N + 1) := sF_y
theorem FS_rest {q : Nat} {c d : Int32} (hq : q = o + 12) : FS u (restS u q N a b c d) o := ⟨rfl, fun j hj => restS_n (by omega), fun _ _ => rfl⟩
/-- MD asks for the run's own puts and rows alone -/
theorem MD_c {v : rg_U} (h : MD u o T N R l m) (h9 : v.1 (100 * o + 9) = u.1 (100 * o + 9)) (h11 : v.1 (100 * (o + 12) + 11) = u.1 (100 * (o + 12) + 11)) (ha : ∀ j, o + 13 ≤ j → j ≤ o + 23 → (j ≤ o + 18 ∨ j = o + 23) → v.2.1 j = u.2.1 j) (hb : ∀ j, o + 30 ≤ j → j ≤ o + 33 → v.2.1 j = u.2.1 j) : MD v o T N R l m := by
  obtain ⟨h1, h2, h3, h4, h5, h6⟩ := h
  refine ⟨h9.trans h1, h2, fun t ht => ?_, PI_c h4 h11 (fun j a b => ha j (by omega) (by omega) (by omega)) (ha _ (by omega) (by omega) (by omega)), PRow_c h5 (fun j a b => ha j (by omega) (by omega) (by omega)), fun t ht => ?_⟩
  · exact SI_c (h3 t ht) (fun s _ => by rw [hb (o + 30) (by omega) (by omega)]) (by rw [hb (o + 31) (by omega) (by omega)]) (by rw [hb (o + 32) (by omega) (by omega)]) (by rw [hb (o + 33) (by omega) (by omega)]) (fun _ _ => rfl)
  · rw [ha (o + 13) (by omega) (by omega) (by omega)]
    exact ⟨PRow_c (h6 t ht).1 (fun j a b => ha j (by omega) (by omega) (by omega)), (h6 t ht).2⟩
/-- the row's places are told by the puts -/
theorem MD_lat (h : MD u o T N R l m) (hp : p < 40) : u.2.1 (o + 23) p = lat (u.2.1 (o + 14)) p N := h.2.2.2.1.2.2.2.2.1 p hp
theorem MD_N (h : MD u o T N R l m) : rF u (o + 12) 11 = nI N := h.2.2.2.1.1
theorem MD_8 (h : MD u o T N R l m) : N ≤ 3800 := h.2.2.2.1.2.1
theorem MD_latest (h : MD u o T N R l m) (hp : p < 40) : g_X6_latestOf F (o + 12) (nI p) u = some (lat (u.2.1 (o + 14)) p N) := by
  rw [x6_latest hp]
  exact congrArg some (MD_lat h hp)
theorem MD_sort (h : MD u o T N R l m) (hp : p < 40) : g_X6_sortOf F (o + 12) (lat (u.2.1 (o + 14)) p N) u = some (m p) := by
  rw [x6_sort (MD_N h) (MD_8 h) (lat_pt N), (h.2.2.2.2.1 p hp).1]
theorem MD_number (h : MD u o T N R l m) (hp : p < 40) : g_X6_numberOf F (o + 12) (lat (u.2.1 (o + 14)) p N) u = some (m (40 + p)) := by
  rw [x6_number (MD_N h) (MD_8 h) (lat_pt N), (h.2.2.2.2.1 p hp).2.1]
theorem MD_value (h : MD u o T N R l m) (hp : p < 40) : g_X6_hasValue F (o + 12) (lat (u.2.1 (o + 14)) p N) s n u = some (if m p = s ∧ m (40 + p) = n then 1 else 0) := by
  rw [x6_value (MD_N h) (MD_8 h) (lat_pt N), (h.2.2.2.2.1 p hp).1, (h.2.2.2.2.1 p hp).2.1]
/-- rows of places alone -/
theorem mput_h2 {k : Nat} (hp : p < 40) (hk : 120 ≤ k) : mput m p s n k = m k := by
  unfold mput
  rw [pk_un (by omega), pk_un (by omega), pk_un (by omega)]
theorem MD_row {m' : Row} (h : ∀ t, t ≤ T + 1 → SI u o (Rx R T m) t) (e : ∀ k, 120 ≤ k → k < 132 → m' k = m k) : ∀ t, t ≤ T + 1 → SI u o (Rx R T m') t := by
  intro t ht
  rcases Nat.lt_or_ge T t with y | y
  · obtain ⟨h1, h2, h3, d, k1, k2, k3, k4⟩ := h t ht
    rw [Rx_gt y] at h1 h2 h3
    unfold SI KI
    simp only [Rx_gt y] at k2 k4 ⊢
    refine ⟨by rw [e 120 (by omega) (by omega)]; exact h1, by rw [e 130 (by omega) (by omega)]; exact h2, by rw [e 131 (by omega) (by omega)]; exact h3, d, k1, by rw [e 121 (by omega) (by omega)]; exact k2, k3, fun f hf => ?_⟩
    obtain ⟨s, b1, b2, b3, b4, b5⟩ := k4 f hf
    have hs : s ≤ T := by omega
    simp only [Rx_le hs] at b4 b5
    exact ⟨s, b1, b2, by rw [e (122 + f) (by omega) (by omega)]; exact b3, by rw [Rx_le hs]; exact b4, fun i hi => by rw [Rx_le hs, e (122 + i) (by omega) (by omega)]; exact b5 i hi⟩
  · exact SI_c (h t ht) (fun _ _ => rfl) rfl rfl rfl (fun s hs => by rw [Rx_le (by omega), Rx_le (by omega)])
/-- what a put in a step makes -/
def putS (u : rg_U) (o T N p : Nat) (s n e a b : Int32) : rg_U := restS (addS u (o + 12) N p (nI (T + 1)) s n (vS (u.2.1 (o + 12 + 5)) 0 (u.2.1 (o + 12 + 11) p) + (if sameV u (o + 12) (u.2.1 (o + 12 + 11) p) s n then 0 else 1)) (u.2.1 (o + 12 + 11) p)) (o + 12) N (nI T) e a b
theorem FS_put {e : Int32} : FS u (putS u o T N p s n e a b) o := FS_t (FS_add rfl) (FS_rest rfl)
theorem putS_9 {e : Int32} : rF (putS u o T N p s n e a b) o 9 = rF u o 9 := by
  show (addS u (o + 12) N p _ s n _ _).1 (100 * o + 9) = _
  rw [addS_f (by omega)]
  rfl
theorem MD_put {e : Int32} (h : MD u o T N R l m) (h8 : N < 3800) (hp : p < 40) : MD (putS u o T N p s n e a b) o T (N + 1) R l (mput m p s n) := by
  obtain ⟨h1, h2, h3, h4, h5, h6⟩ := id h
  have hN31 : N < 2 ^ 31 := by omega
  have hPI := PI_add (s := s) (n := n) h4 h8 hp (Nat.le_refl _) (by omega)
  have hadd : MD (addS u (o + 12) N p (nI (T + 1)) s n (vS (u.2.1 (o + 12 + 5)) 0 (u.2.1 (o + 12 + 11) p) + (if sameV u (o + 12) (u.2.1 (o + 12 + 11) p) s n then 0 else 1)) (u.2.1 (o + 12 + 11) p)) o T (N + 1) R l (mput m p s n) := by
    refine ⟨?_, h2, MD_row (m := m) (fun t ht => SI_c (h3 t ht) (fun s' _ => by rw [addS_n (by omega)]) (by rw [addS_n (by omega)]) (by rw [addS_n (by omega)]) (by rw [addS_n (by omega)]) (fun _ _ => rfl)) (fun k k1 k2 => mput_h2 hp k1), hPI, PRow_new (h4.2.2.2.2.1 p hp) h5 hN31 hp, fun t ht => ?_⟩
    · show (addS u (o + 12) N p _ s n _ _).1 (100 * o + 9) = _
      rw [addS_f (by omega)]
      exact h1
    · have ec := cP_add (u := u) (q := o + 12) (N := N) (p := p) (s := s) (n := n) (ch := (vS (u.2.1 (o + 12 + 5)) 0 (u.2.1 (o + 12 + 11) p) + (if sameV u (o + 12) (u.2.1 (o + 12 + 11) p) s n then 0 else 1))) (old := u.2.1 (o + 12 + 11) p) (t := T + 1) (k := t) (by omega) (by omega)
      rw [show o + 13 = o + 12 + 1 from rfl, ec]
      exact ⟨PRow_add (h6 t ht).1 (cP_le N) hN31, (h6 t ht).2⟩
  refine MD_c hadd (congrFun restS_f _) (congrFun restS_f _) (fun j j1 j2 j3 => ?_) (fun j j1 j2 => ?_)
  · exact restS_n (by omega)
  · exact restS_n (by omega)
/-- whether the value became another one, by the row -/
theorem MD_same (h : MD u o T N R l m) (hp : p < 40) : sameV u (o + 12) (u.2.1 (o + 12 + 11) p) s n ↔ m p = s ∧ m (40 + p) = n := by
  have e : u.2.1 (o + 12 + 11) p = lat (u.2.1 (o + 12 + 2)) p N := MD_lat h hp
  unfold sameV
  rw [e, (h.2.2.2.2.1 p hp).1, (h.2.2.2.2.1 p hp).2.1]
theorem c_put (h : MD u o T N R l m) (h8 : N < 3800) (hp : p < 40) : g_X7_putByStep F o (nI p) s n a b u = some (sF (putS u o T N p s n (-1) a b) o 11 (if m p = s ∧ m (40 + p) = n then -1 else nI p)) := by
  have hl : isPt N (u.2.1 (o + 12 + 11) p) := by
    rw [show u.2.1 (o + 12 + 11) p = lat (u.2.1 (o + 14)) p N from MD_lat h hp]
    exact lat_pt N
  unfold g_X7_putByStep
  rw [h.1, nI_1, c_add6 (MD_N h) h8 hp hl, ob_i]
  dsimp only
  have e9 : rF (addS u (o + 12) N p (nI (T + 1)) s n (vS (u.2.1 (o + 12 + 5)) 0 (u.2.1 (o + 12 + 11) p) + (if sameV u (o + 12) (u.2.1 (o + 12 + 11) p) s n then 0 else 1)) (u.2.1 (o + 12 + 11) p)) o 9 = nI T := by
    show (addS u (o + 12) N p _ s n _ _).1 (100 * o + 9) = _
    rw [addS_f (by omega)]
    exact h.1
  rw [e9, c_rest addS_N h8, ob_i]
  have hs := MD_same (s := s) (n := n) h hp
  by_cases q : m p = s ∧ m (40 + p) = n
  · rw [if_pos (show (if sameV u (o + 12) (u.2.1 (o + 12 + 11) p) s n then (0 : Int32) else 1) = 0 from if_pos (hs.mpr q)), lt1_i, if_pos q]
    rfl
  · rw [if_neg (show ¬ (if sameV u (o + 12) (u.2.1 (o + 12 + 11) p) s n then (0 : Int32) else 1) = 0 by rw [if_neg (fun z => q (hs.mp z))]; decide), lt1_i, if_neg q]
    rfl
end XM
