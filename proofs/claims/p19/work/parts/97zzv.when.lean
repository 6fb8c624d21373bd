/-! the class and the reference: when -/
/-- x is the last by t with f -/
def LsT (f : Nat → Prop) (t : Nat) (x : Int32) : Prop := (x = -1 ∧ ∀ m, m ≤ t → ¬ f m) ∨ ∃ m, m ≤ t ∧ x = nI m ∧ f m ∧ ∀ m', m < m' → m' ≤ t → ¬ f m'
theorem LsT_u {f : Nat → Prop} {t : Nat} {x y : Int32} (h : LsT f t x) (h' : LsT f t y) : x = y := by
  rcases h with ⟨e, h⟩ | ⟨m, h1, e, h3, h4⟩
  · rcases h' with ⟨e', h'⟩ | ⟨m', g1, e', g3, g4⟩
    · rw [e, e']
    · exact absurd g3 (h m' g1)
  · rcases h' with ⟨e', h'⟩ | ⟨m', g1, e', g3, g4⟩
    · exact absurd h3 (h' m h1)
    · have : m = m' := by
        rcases Nat.lt_trichotomy m m' with y | y | y
        · exact absurd g3 (h4 m' y g1)
        · exact y
        · exact absurd h3 (g4 m y h1)
      rw [e, e', this]
theorem LsT_ext {f : Nat → Prop} {b b' : Nat} {x : Int32} (h : LsT f b' x) (hb : b' ≤ b) (hn : ∀ m, b' < m → m ≤ b → ¬ f m) : LsT f b x := by
  rcases h with ⟨e, h⟩ | ⟨m, h1, e, h3, h4⟩
  · refine Or.inl ⟨e, fun m hm => ?_⟩
    rcases Nat.lt_or_ge b' m with y | y
    · exact hn m y hm
    · exact h m y
  · refine Or.inr ⟨m, by omega, e, h3, fun m' a1 a2 => ?_⟩
    rcases Nat.lt_or_ge b' m' with y | y
    · exact hn m' y a2
    · exact h4 m' a1 y
theorem LsT_low {f : Nat → Prop} {b b' : Nat} {x : Int32} (h : LsT f b x) (hb : b' ≤ b) (hn : ∀ m, b' < m → m ≤ b → ¬ f m) : LsT f b' x := by
  rcases h with ⟨e, h⟩ | ⟨m, h1, e, h3, h4⟩
  · exact Or.inl ⟨e, fun m hm => h m (by omega)⟩
  · refine Or.inr ⟨m, ?_, e, h3, fun m' a1 a2 => h4 m' a1 (by omega)⟩
    rcases Nat.lt_or_ge b' m with y | y
    · exact absurd h3 (hn m y h1)
    · exact y
theorem LsT_c {f g : Nat → Prop} {t : Nat} {x : Int32} (h : LsT f t x) (e : ∀ m, m ≤ t → (f m ↔ g m)) : LsT g t x := by
  rcases h with ⟨e1, h⟩ | ⟨m, h1, e1, h3, h4⟩
  · exact Or.inl ⟨e1, fun m hm w => h m hm ((e m hm).mpr w)⟩
  · exact Or.inr ⟨m, h1, e1, (e m h1).mp h3, fun m' a1 a2 w => h4 m' a1 a2 ((e m' a2).mpr w)⟩
theorem LsT_nlt {f : Nat → Prop} {t : Nat} {x : Int32} (h : LsT f t x) (ht : t ≤ 3000) : ¬ nI t < x := by
  rcases h with ⟨e, -⟩ | ⟨m, h1, e, -⟩
  · rw [e, Int32.lt_iff_toInt_lt, nI_toInt (by omega), show (-1 : Int32).toInt = -1 from rfl]
    omega
  · rw [e]; exact nI_nlt h1 (by omega)
theorem pred_lt {a m : Nat} (h : a ≤ m) (hm : m ≤ 3000) : nI a - 1 < nI m := by
  rcases Nat.eq_zero_or_pos a with z | z
  · subst z
    rw [Int32.lt_iff_toInt_lt, nI_toInt (by omega), show (nI 0 - 1 : Int32).toInt = -1 from rfl]
    omega
  · rw [show nI a - 1 = nI (a - 1) from nI_sub (a := a) (b := 1) z]
    exact nI_lt (by omega) (by omega)
theorem hdA_ls {f : Nat → Prop} [∀ m, Decidable (f m)] {a : Nat} : ∀ k, (hdA f a k = -1 ∧ ∀ m, m < k → ¬ f (a + m)) ∨ ∃ m, m < k ∧ hdA f a k = nI (a + m) ∧ f (a + m) ∧ ∀ m', m < m' → m' < k → ¬ f (a + m')
  | 0 => Or.inl ⟨rfl, fun m hm => by omega⟩
  | k + 1 => by
    by_cases q : f (a + k)
    · exact Or.inr ⟨k, by omega, if_pos q, q, fun m' a1 a2 => by omega⟩
    · have e : hdA f a (k + 1) = hdA f a k := if_neg q
      rw [e]
      rcases hdA_ls (f := f) (a := a) k with ⟨h1, h2⟩ | ⟨m, h1, h2, h3, h4⟩
      · refine Or.inl ⟨h1, fun m hm => ?_⟩
        by_cases z : m = k
        · rw [z]; exact q
        · exact h2 m (by omega)
      · refine Or.inr ⟨m, by omega, h2, h3, fun m' a1 a2 => ?_⟩
        by_cases z : m' = k
        · rw [z]; exact q
        · exact h4 m' a1 (by omega)
/-- the value asked for, in the reference -/
abbrev vlF (u : rg_U) (r p : Nat) (s n : Int32) (m : Nat) : Prop := (rpm u r m).1 p = s ∧ (rpm u r m).1 (40 + p) = n
theorem whA_y {u : rg_U} {r p f b a : Nat} {s n : Int32} (ea : hk (Hm u r) (b / Ur u r) * Ur u r = a) (h : ¬ hdA (vlF u r p s n) a (b - a + 1) = -1) : whA u r p s n (f + 1) b = (hdA (vlF u r p s n) a (b - a + 1), b - a) := by
  subst ea
  show (if hdA (vlF u r p s n) _ _ = -1 then _ else _) = _
  rw [if_neg h]
theorem whA_0 {u : rg_U} {r p f b a : Nat} {s n : Int32} (ea : hk (Hm u r) (b / Ur u r) * Ur u r = a) (h : hdA (vlF u r p s n) a (b - a + 1) = -1) (h0 : a = 0) : whA u r p s n (f + 1) b = (-1, b) := by
  subst ea
  show (if hdA (vlF u r p s n) _ _ = -1 then (if _ then _ else _) else _) = _
  rw [if_pos h, if_pos h0]
theorem whA_n {u : rg_U} {r p f b a : Nat} {s n : Int32} (ea : hk (Hm u r) (b / Ur u r) * Ur u r = a) (h : hdA (vlF u r p s n) a (b - a + 1) = -1) (h0 : ¬ a = 0) : whA u r p s n (f + 1) b = ((whA u r p s n f (a - 1)).1, (b - a) + (whA u r p s n f (a - 1)).2) := by
  subst ea
  show (if hdA (vlF u r p s n) _ _ = -1 then (if _ then _ else _) else _) = _
  rw [if_pos h, if_neg h0]
theorem whA_ls {u : rg_U} {r p : Nat} {s n : Int32} : ∀ (f b : Nat), b < f → b ≤ 3000 → LsT (vlF u r p s n) b (whA u r p s n f b).1
  | 0, b, h, _ => by omega
  | f + 1, b, h, h3 => by
    have hle : hk (Hm u r) (b / Ur u r) * Ur u r ≤ b := Nat.le_trans (Nat.mul_le_mul_right _ (hk_le _ _)) (Nat.div_mul_le_self b (Ur u r))
    obtain ⟨a, ea⟩ : ∃ a, hk (Hm u r) (b / Ur u r) * Ur u r = a := ⟨_, rfl⟩
    rw [ea] at hle
    rcases hdA_ls (f := vlF u r p s n) (a := a) (b - a + 1) with ⟨h1, h2⟩ | ⟨m, h1, h2, h4, h5⟩
    · have hn : ∀ m, a ≤ m → m ≤ b → ¬ vlF u r p s n m := fun m x1 x2 => by
        have := h2 (m - a) (by omega)
        rwa [show a + (m - a) = m by omega] at this
      by_cases z : a = 0
      · rw [whA_0 ea h1 z]
        exact Or.inl ⟨rfl, fun m hm => hn m (by omega) hm⟩
      · rw [whA_n ea h1 z]
        exact LsT_ext (whA_ls f (a - 1) (by omega) (by omega)) (by omega) (fun m x1 x2 => hn m (by omega) x2)
    · rw [whA_y ea (by rw [h2]; exact nI_m1 (by omega))]
      refine Or.inr ⟨a + m, by omega, h2, h4, fun m' x1 x2 => ?_⟩
      have := h5 (m' - a) (by omega) (by omega)
      rwa [show a + (m' - a) = m' by omega] at this
/-- the value asked for, by the puts -/
def hvF (u : rg_U) (q p N : Nat) (s n : Int32) (m : Nat) : Prop := vS (u.2.1 (q + 3)) 0 (lat (u.2.1 (q + 2)) p (cP (u.2.1 (q + 1)) m N)) = s ∧ vS (u.2.1 (q + 4)) 0 (lat (u.2.1 (q + 2)) p (cP (u.2.1 (q + 1)) m N)) = n
section YM
variable {pB : Prop} {F K W o r t p q T N : Nat} {u uc um : rg_U} {x y z s n v : Int32}
theorem c_hadl (hP : PI u q T N) (hp : p < 40) : ∀ (G k b l : Nat), k + 2 < G → k ≤ N → k ≤ l → l ≤ N → b ≤ 3000 → cP (u.2.1 (q + 1)) b N ≤ k → ∃ y x, lp (fun (z : Int32 × Int32 × Int32) => g_X6_hadBy_l16 F q s n u z.1 z.2.1 z.2.2) G (nI b, lat (u.2.1 (q + 2)) p k, nI l) = some y ∧ os y (fun r => some r) (fun _ => some (-1 : Int32)) = some x ∧ LsT (hvF u q p N s n) b x
  | 0, k, b, l, hG, _, _, _, _, _ => by omega
  | G + 1, k, b, l, hG, hk, hkl, hl, hb, hc => by
    obtain ⟨hN, h8, hT, hm, hlt, hx⟩ := id hP
    have hend : ∀ (c y l' : Int32), c < 0 → g_X6_hadBy_l16 F q s n u c y l' = some (.inr (Sum.inr ())) := fun c y l' h => by
      unfold g_X6_hadBy_l16
      by_cases w : l' < 0
      · rw [if_pos w]
      · rw [if_neg w, if_pos h]
    have hst : ∀ {c y l' : Int32}, c < 0 → g_X6_hadBy_l16 F q s n u (nI b) (lat (u.2.1 (q + 2)) p k) (nI l) = some (.inl (c, y, l')) → lp (fun (z : Int32 × Int32 × Int32) => g_X6_hadBy_l16 F q s n u z.1 z.2.1 z.2.2) (G + 1) (nI b, lat (u.2.1 (q + 2)) p k, nI l) = some (Sum.inr ()) := fun {c y l'} h e => by
      rw [lp_l (body := fun (z : Int32 × Int32 × Int32) => g_X6_hadBy_l16 F q s n u z.1 z.2.1 z.2.2) (s := (nI b, lat (u.2.1 (q + 2)) p k, nI l)) e]
      match G, hG with
      | 0, hG => omega
      | G + 1, hG => exact lp_r (hend c y l' h)
    rcases lat_pt (pp := u.2.1 (q + 2)) (p := p) k with e | ⟨a, ha, e⟩
    · have hno := lat_none (pp := u.2.1 (q + 2)) (p := p) k (by omega) e
      have hlm : ∀ m, m ≤ b → lat (u.2.1 (q + 2)) p (cP (u.2.1 (q + 1)) m N) = -1 := fun m hm' => by
        have c1 := cP_mono (pt := u.2.1 (q + 1)) hm' N
        rw [← lat_skip (pp := u.2.1 (q + 2)) (p := p) (M := cP (u.2.1 (q + 1)) m N) k (by omega) (fun i _ hi => hno i hi), e]
      by_cases w : vS (u.2.1 (q + 3)) 0 (-1) = s ∧ vS (u.2.1 (q + 4)) 0 (-1) = n
      · have hb1 : g_X6_hadBy_l16 F q s n u (nI b) (lat (u.2.1 (q + 2)) p k) (nI l) = some (.inr (Sum.inl (nI b))) := by
          unfold g_X6_hadBy_l16
          rw [if_neg (nI_pos (by omega)), if_neg (nI_pos (by omega)), e, x6_time hN h8 (Or.inl rfl), ob_i, vS_0, if_neg (nI_pos (by omega)), x6_value hN h8 (Or.inl rfl), ob_i, if_pos w, if_neg one_n0]
        refine ⟨_, _, lp_r hb1, rfl, Or.inr ⟨b, Nat.le_refl _, rfl, ?_, fun m' x1 x2 => by omega⟩⟩
        unfold hvF
        rw [hlm b (Nat.le_refl _)]
        exact w
      · have hb1 : g_X6_hadBy_l16 F q s n u (nI b) (lat (u.2.1 (q + 2)) p k) (nI l) = some (.inl ((0 : Int32) - 1, -1, nI l + (-1))) := by
          unfold g_X6_hadBy_l16 g_X6_hadBy_j62
          rw [if_neg (nI_pos (by omega)), if_neg (nI_pos (by omega)), e, x6_time hN h8 (Or.inl rfl), ob_i, vS_0, if_neg (nI_pos (by omega)), x6_value hN h8 (Or.inl rfl), ob_i, if_neg w, if_pos rfl, ob_i, x6_ahead hN h8 (Or.inl rfl), ob_i, vS_0]
        refine ⟨_, _, hst (by decide) hb1, rfl, Or.inl ⟨rfl, fun m hm' w2 => w ?_⟩⟩
        unfold hvF at w2
        rw [hlm m hm'] at w2
        exact w2
    · obtain ⟨l1, l2, l3⟩ := lat_some (pp := u.2.1 (q + 2)) (p := p) k (by omega) e (by omega)
      obtain ⟨τ, p', d1, d2, d3, d4, d5, -⟩ := hx a (by omega)
      have ep : p = p' := (nI_inj (by omega) (by omega) (d4.symm.trans l2)).symm
      subst ep
      have hti : ∀ m, a < cP (u.2.1 (q + 1)) m N ↔ τ ≤ m := fun m => by
        rw [cP_iff N hm a (by omega), d3, tnn (by omega)]
      have hlm : ∀ m, τ ≤ m → m ≤ b → lat (u.2.1 (q + 2)) p (cP (u.2.1 (q + 1)) m N) = nI a := fun m h1 h2 => by
        have c1 := cP_mono (pt := u.2.1 (q + 1)) h2 N
        exact lat_at ((hti m).mpr h1) l2 (fun i i1 i2 => l3 i i1 (by omega))
      have hap : isPt N (nI a) := Or.inr ⟨a, by omega, rfl⟩
      have ele : nI l + (-1) = nI (l - 1) := by
        have := nI_dec (k := l - 1)
        rwa [show l - 1 + 1 = l by omega] at this
      by_cases w : b < τ
      · have hb1 : g_X6_hadBy_l16 F q s n u (nI b) (lat (u.2.1 (q + 2)) p k) (nI l) = some (.inl (nI b, lat (u.2.1 (q + 2)) p a, nI (l - 1))) := by
          unfold g_X6_hadBy_l16 g_X6_hadBy_j62
          rw [if_neg (nI_pos (by omega)), if_neg (nI_pos (by omega)), e, x6_time hN h8 hap, ob_i, vS_n (by omega), d3, if_pos (nI_lt w (by omega)), x6_ahead hN h8 hap, ob_i, vS_n (by omega), d5, ele]
        obtain ⟨y, x, g1, g2, g3⟩ := c_hadl hP hp G a b (l - 1) (by omega) (by omega) (by omega) (by omega) hb (by
          have := hti b
          omega)
        exact ⟨y, x, (lp_l (body := fun (z : Int32 × Int32 × Int32) => g_X6_hadBy_l16 F q s n u z.1 z.2.1 z.2.2) (s := (nI b, lat (u.2.1 (q + 2)) p k, nI l)) hb1).trans g1, g2, g3⟩
      · by_cases w2 : vS (u.2.1 (q + 3)) 0 (nI a) = s ∧ vS (u.2.1 (q + 4)) 0 (nI a) = n
        · have hb1 : g_X6_hadBy_l16 F q s n u (nI b) (lat (u.2.1 (q + 2)) p k) (nI l) = some (.inr (Sum.inl (nI b))) := by
            unfold g_X6_hadBy_l16
            rw [if_neg (nI_pos (by omega)), if_neg (nI_pos (by omega)), e, x6_time hN h8 hap, ob_i, vS_n (by omega), d3, if_neg (nI_nlt (by omega) (by omega)), x6_value hN h8 hap, ob_i, if_pos w2, if_neg one_n0]
          refine ⟨_, _, lp_r hb1, rfl, Or.inr ⟨b, Nat.le_refl _, rfl, ?_, fun m' x1 x2 => by omega⟩⟩
          unfold hvF
          rw [hlm b (by omega) (Nat.le_refl _)]
          exact w2
        · have hb1 : g_X6_hadBy_l16 F q s n u (nI b) (lat (u.2.1 (q + 2)) p k) (nI l) = some (.inl (nI τ - 1, lat (u.2.1 (q + 2)) p a, nI (l - 1))) := by
            unfold g_X6_hadBy_l16 g_X6_hadBy_j62
            rw [if_neg (nI_pos (by omega)), if_neg (nI_pos (by omega)), e, x6_time hN h8 hap, ob_i, vS_n (by omega), d3, if_neg (nI_nlt (by omega) (by omega)), x6_value hN h8 hap, ob_i, if_neg w2, if_pos rfl, ob_i, x6_ahead hN h8 hap, ob_i, vS_n (by omega), d5, ele]
          have hno : ∀ m, τ ≤ m → m ≤ b → ¬ hvF u q p N s n m := fun m h1 h2 w3 => by
            unfold hvF at w3
            rw [hlm m h1 h2] at w3
            exact w2 w3
          by_cases w4 : τ = 0
          · refine ⟨_, _, hst (c := nI τ - 1) (by rw [w4]; decide) hb1, rfl, Or.inl ⟨rfl, fun m hm' => hno m (by omega) hm'⟩⟩
          · rw [show nI τ - 1 = nI (τ - 1) from nI_sub (a := τ) (b := 1) (by omega)] at hb1
            obtain ⟨y, x, g1, g2, g3⟩ := c_hadl hP hp G a (τ - 1) (l - 1) (by omega) (by omega) (by omega) (by omega) (by omega) (by
              have := hti (τ - 1)
              omega)
            exact ⟨y, x, (lp_l (body := fun (z : Int32 × Int32 × Int32) => g_X6_hadBy_l16 F q s n u z.1 z.2.1 z.2.2) (s := (nI b, lat (u.2.1 (q + 2)) p k, nI l)) hb1).trans g1, g2, LsT_ext g3 (by omega) (fun m x1 x2 => hno m (by omega) x2)⟩
theorem c_hadBy (hP : PI u q T N) (hp : p < 40) (ht : t ≤ 3000) (hF : 10000 < F) : ∃ x, g_X6_hadBy F q (nI t) (nI p) s n u = some x ∧ LsT (hvF u q p N s n) t x := by
  obtain ⟨hN, h8, hT, hm, hlt, hx⟩ := id hP
  obtain ⟨y, x, g1, g2, g3⟩ := c_hadl (F := F) (s := s) (n := n) hP hp F N t N (by omega) (Nat.le_refl _) (Nat.le_refl _) (Nat.le_refl _) ht (cP_le N)
  refine ⟨x, ?_, g3⟩
  unfold g_X6_hadBy
  rw [x6_latest hp, ob_i, hlt p hp, hN, g1, ob_i]
  exact g2
/-- how many steps it costs to find -/
theorem c_steps {n' : Nat} {f : Nat → Nat} (hn : rF u o 1 = nI n') (h64 : n' ≤ 64) (ha : ∀ i, i < n' → u.2.1 (o + 1) i = nI (f i * Ur um r)) (hl : HL f n' (fun k => k ≤ 3000 ∧ ¬ Hm um r k = 0)) (hU : 0 < Ur um r) (h0 : ¬ Hm um r 0 = 0) (hT : ∀ i, i < n' → f i * Ur um r ≤ 3000) (hF : 10000 < F) : ∀ (G i b c fu : Nat), i < G → i ≤ n' → b ≤ 3000 → b < fu → (∀ j, i ≤ j → j < n' → b < f j * Ur um r) → LsT (vlF um r p s n) b x → lp (fun (z : Int32 × Int32 × Int32) => g_X2_stepsToFind_l13 F o x u z.1 z.2.1 z.2.2) G (nI c, nI b, nI i + (-1)) = some (nI (c + (whA um r p s n fu b).2))
  | 0, i, b, c, fu, hG, _, _, _, _, _ => by omega
  | G + 1, 0, b, c, fu, hG, h1, h2, h3, h4, h5 => by
    obtain ⟨z, hz, ez⟩ := (hl.2 0).mp ⟨by omega, h0⟩
    have f0 : f 0 = 0 := by have := HL_le hl (Nat.zero_le z) hz; omega
    have := h4 0 (Nat.le_refl _) (by omega)
    rw [f0] at this
    omega
  | G + 1, i + 1, b, c, 0, hG, h1, h2, h3, h4, h5 => by omega
  | G + 1, i + 1, b, c, fu + 1, hG, h1, h2, h3, h4, h5 => by
    have hti := hT i (by omega)
    have e1 : g_X2_timeOf F o (nI i) u = some (nI (f i * Ur um r)) := by rw [x2_time hn h64 (by omega), ha i (by omega)]
    rw [nI_dec]
    by_cases w : b < f i * Ur um r
    · have hb : g_X2_stepsToFind_l13 F o x u (nI c) (nI b) (nI i) = some (.inl (nI c, nI b, nI i + (-1))) := by
        unfold g_X2_stepsToFind_l13 g_X2_stepsToFind_j57
        rw [if_neg (nI_pos (by omega)), if_neg (LsT_nlt h5 h2), e1, ob_i, if_pos (nI_lt w (by omega))]
      rw [lp_l (body := fun (z : Int32 × Int32 × Int32) => g_X2_stepsToFind_l13 F o x u z.1 z.2.1 z.2.2) (s := (nI c, nI b, nI i)) hb]
      refine c_steps hn h64 ha hl hU h0 hT hF G i b c (fu + 1) (by omega) (by omega) h2 h3 (fun j j1 j2 => ?_) h5
      by_cases z : j = i
      · rw [z]; exact w
      · exact h4 j (by omega) j2
    · obtain ⟨a, eA⟩ : ∃ a, f i * Ur um r = a := ⟨_, rfl⟩
      have ea : hk (Hm um r) (b / Ur um r) * Ur um r = a := by
        have hle : f i ≤ b / Ur um r := (Nat.le_div_iff_mul_le hU).mpr (by omega)
        obtain ⟨b1, b2⟩ := (hl.2 (f i)).mpr ⟨i, by omega, rfl⟩
        rw [hk_is (b / Ur um r) hle (Or.inr b2) (fun j c1 c2 => Classical.byContradiction fun c3 => ?_)]
        · exact eA
        · have hj3 : j ≤ 3000 := by have := Nat.div_le_self b (Ur um r); omega
          obtain ⟨a', ha', ea'⟩ := (hl.2 j).mp ⟨hj3, c3⟩
          have hai : i + 1 ≤ a' := by
            rcases Nat.lt_or_ge a' (i + 1) with y | y
            · have := HL_le hl (show a' ≤ i by omega) (by omega)
              omega
            · exact y
          have h6 : j * Ur um r ≤ b := (Nat.le_div_iff_mul_le hU).mp c2
          have h7 := h4 a' hai ha'
          rw [ea'] at h7
          omega
      rw [eA] at hti w e1
      have hb : g_X2_stepsToFind_l13 F o x u (nI c) (nI b) (nI i) = some (.inl (nI (c + (b - a)), nI a - 1, nI i + (-1))) := by
        unfold g_X2_stepsToFind_l13 g_X2_stepsToFind_j57
        rw [if_neg (nI_pos (by omega)), if_neg (LsT_nlt h5 h2), e1, ob_i, if_neg (nI_nlt (by omega) (by omega)), ob_i, ob_i, nI_sub (show a ≤ b by omega), nI_add]
      rw [lp_l (body := fun (z : Int32 × Int32 × Int32) => g_X2_stepsToFind_l13 F o x u z.1 z.2.1 z.2.2) (s := (nI c, nI b, nI i)) hb]
      have stop : ∀ (l4 l5 : Int32), (l5 < 0 ∨ l4 < x) → lp (fun (z : Int32 × Int32 × Int32) => g_X2_stepsToFind_l13 F o x u z.1 z.2.1 z.2.2) G (nI (c + (b - a)), l4, l5) = some (nI (c + (b - a))) := fun l4 l5 h => by
        have hb2 : g_X2_stepsToFind_l13 F o x u (nI (c + (b - a))) l4 l5 = some (.inr (nI (c + (b - a)))) := by
          unfold g_X2_stepsToFind_l13
          by_cases w1 : l5 < 0
          · rw [if_pos w1]
          · rcases h with h | h
            · exact absurd h w1
            · rw [if_neg w1, if_pos h]
        match G, hG with
        | 0, hG => omega
        | G + 1, hG => exact lp_r hb2
      rcases hdA_ls (f := vlF um r p s n) (a := a) (b - a + 1) with ⟨g1, g2⟩ | ⟨m, g1, g2, g3, g4⟩
      · have hno : ∀ m, a ≤ m → m ≤ b → ¬ vlF um r p s n m := fun m x1 x2 => by
          have := g2 (m - a) (by omega)
          rwa [show a + (m - a) = m by omega] at this
        by_cases z : a = 0
        · have hi0 : i = 0 := by
            rcases Nat.eq_zero_or_pos i with y | y
            · exact y
            · have h6 := hl.1 0 i y (by omega)
              have h7 : 1 * Ur um r ≤ f i * Ur um r := Nat.mul_le_mul_right _ (by omega)
              omega
          rw [whA_0 ea g1 z, stop _ _ (Or.inl (by rw [hi0]; decide))]
          dsimp only
          rw [z, Nat.sub_zero]
        · rw [whA_n ea g1 z, show nI a - 1 = nI (a - 1) from nI_sub (a := a) (b := 1) (by omega), c_steps hn h64 ha hl hU h0 hT hF G i (a - 1) (c + (b - a)) fu (by omega) (by omega) (by omega) (by omega) (fun j j1 j2 => ?_) (LsT_low h5 (by omega) (fun m x1 x2 => hno m (by omega) x2))]
          · dsimp only
            rw [Nat.add_assoc]
          · have h6 : f i * Ur um r ≤ f j * Ur um r := Nat.mul_le_mul_right _ (HL_le hl j1 j2)
            omega
      · have hx : x = nI (a + m) := LsT_u h5 (Or.inr ⟨a + m, by omega, rfl, g3, fun m' x1 x2 => by
          have := g4 (m' - a) (by omega) (by omega)
          rwa [show a + (m' - a) = m' by omega] at this⟩)
        rw [whA_y ea (by rw [g2]; exact nI_m1 (by omega)), stop _ _ (Or.inr (by rw [hx]; exact pred_lt (by omega) (by omega)))]
theorem c_when (hR : RR pB uc um o r) (hro : runOK um r) (ht : t ≤ Tr um r) (hp : p < 40) (hT3 : Tr um r ≤ 3000) (hF : 10000 < F) : g_X6_hadBy F (o + 12) (nI t) (nI p) s n uc = some (whA um r p s n 3001 t).1 ∧ g_X2_stepsToFind F (o + 28) (whA um r p s n 3001 t).1 (nI t) uc = some (nI (whA um r p s n 3001 t).2) := by
  obtain ⟨N, hS⟩ := hR.2.2.2.2.2.2
  have hP := hS.2.2.2.1
  obtain ⟨x, g1, g2⟩ := c_hadBy (F := F) (s := s) (n := n) hP hp (show t ≤ 3000 by omega) hF
  have g3 : LsT (vlF um r p s n) t x := LsT_c g2 (fun m hm => by
    have w := (hS.2.2.2.2 m (by omega)).1 p hp
    dsimp only at w
    rw [show o + 13 = o + 12 + 1 from rfl] at w
    unfold hvF vlF
    rw [w.1, w.2.1])
  have hls := whA_ls (u := um) (r := r) (p := p) (s := s) (n := n) 3001 t (by omega) (by omega)
  have ex := LsT_u g3 hls
  refine ⟨by rw [g1, ex], ?_⟩
  obtain ⟨-, -, n', f, hn, h64, ha, hl⟩ := hR.2.2.2.1
  have hH := hro.2.2.2.2.2.2.2.1
  have h := c_steps (F := F) (c := 0) (fu := 3001) (p := p) (s := s) (n := n) hn h64 ha hl hro.2.2.2.2.2.1.1 (by rw [hH.1]; decide) (fun i hi => by
    obtain ⟨a1, a2⟩ := (hl.2 (f i)).mpr ⟨i, hi, rfl⟩
    rcases hH.2 (f i) a1 with w | w
    · exact absurd w a2
    · have := w.2
      omega) hF F n' t (by omega) (Nat.le_refl _) (by omega) (by omega) (fun j j1 j2 => by omega) hls
  unfold g_X2_stepsToFind
  rw [hn, show nI n' - 1 = nI n' + (-1) from Int32.sub_eq_add_neg _ _]
  rw [show nI 0 = (0 : Int32) from rfl, Nat.zero_add] at h
  rw [h, ob_i]
theorem sr_when (hF : 10000 < F) : SB pB (g_X9_when F x y s n) (g_X10_when F x y s n) := fun uc um h => by
  obtain ⟨K, W, r1, -⟩ := id h
  have h0 := Rel_zero h
  have m0 : okM (sF um 0 35 0) K W := okM_34 (by omega) r1
  have eA : aR (sF um 0 35 0) = aR um := rfl
  unfold g_X9_when
  rw [lt1_i]
  rcases Rel_ask (F := F) h0 m0 with ⟨e5, en⟩ | ⟨ea, e5, h5, en, hR⟩
  · rw [en, ob_i, om_0]
    rcases m_when (F := F) (x := x) (y := y) (s := s) (n := n) r1 hF with ⟨-, q, -⟩ | ⟨t, p, u', -, w, -⟩
    · exact ⟨_, _, rfl, q, rfl, h0⟩
    · rw [show um.2.1 5 (aR um) = 0 from e5] at w
      exact absurd w (by decide)
  · have hro := m0.1.2.2.2.2.1 _ ea
    have hT3 := hro.2.2.2.2.2.2.1.1.2.2.2.1
    rw [eA] at *
    obtain ⟨N, hS⟩ := hR.2.2.2.2.2.2
    rw [en, ob_i, om_i, ck_t (oR_rn h5), cl_place, cl_value]
    have bad : ¬ (isTm um x ∧ ¬ g_X10_isPlace y = 0 ∧ ¬ g_X10_isValue s n = 0) → ∃ zm, g_X10_when F x y s n um = some zm ∧ (-2 : Int32) = zm.1 ∧ RelC pB (sF uc 0 13 0) zm.2 := fun hb => by
      rcases m_when (F := F) (x := x) (y := y) (s := s) (n := n) r1 hF with ⟨-, q, -⟩ | ⟨t, p, u', -, w1, w2, w3, w4, w5, w6, -⟩
      · exact ⟨_, q, rfl, h0⟩
      · exact absurd ⟨⟨w1, t, w2, w3⟩, by rw [w5]; exact in_nI (a := 0) (b := 39) (by omega) (by omega) (by decide), w6⟩ hb
    rcases x7_hasI (F := F) (x := x) hS.1 hT3 with ⟨q1, q2⟩ | ⟨t, ht, rfl, q1⟩
    · rw [q1, ob_i, if_pos rfl]
      obtain ⟨zm, b1, b2, b3⟩ := bad (fun w => q2 w.1.2)
      exact ⟨_, zm, rfl, b1, b2, b3⟩
    rw [q1, ob_i, if_neg (by decide)]
    by_cases q2 : g_X10_isPlace y = 0
    · rw [if_pos q2]
      obtain ⟨zm, b1, b2, b3⟩ := bad (fun w => w.2.1 q2)
      exact ⟨_, zm, rfl, b1, b2, b3⟩
    rw [if_neg q2]
    by_cases q3 : g_X10_isValue s n = 0
    · rw [if_pos q3]
      obtain ⟨zm, b1, b2, b3⟩ := bad (fun w => w.2.2 q3)
      exact ⟨_, zm, rfl, b1, b2, b3⟩
    rw [if_neg q3]
    rcases m_when (F := F) (x := nI t) (y := y) (s := s) (n := n) r1 hF with ⟨w, -⟩ | ⟨t2, p, u', w0, w1, w2, w3, w4, w5, w6, q, hok, hce⟩
    · exact absurd ⟨⟨e5, t, ht, rfl⟩, q2, q3⟩ w
    · have hT3' : Tr um (aR um) ≤ 3000 := hT3
      have ht' : t ≤ Tr um (aR um) := ht
      have et : t2 = t := nI_inj (by omega) (by omega) w3.symm
      subst et
      have ho := oR_ge (r := aR um)
      obtain ⟨c1, c2⟩ := c_when (F := F) (t := t2) (p := p) (s := s) (n := n) hR hro ht w4 hT3 hF
      rw [whA_s] at c1 c2
      have cnt : ∀ v, g_X9_count F (oR (aR um)) v (sF uc 0 13 0) = some (cSc (sF uc 0 13 0) (oR (aR um)) v) := fun v => by
        unfold g_X9_count
        rw [lt1_i, lt1_i, show rF (sF (sF uc 0 13 0) (oR (aR um)) 12 (rF (sF uc 0 13 0) (oR (aR um)) 12 + v)) 0 13 = rF (sF uc 0 13 0) 0 13 from sF_n (by omega)]
      rw [w5] at q
      rw [w5, c1, ob_i, c2, ob_i, cnt, ob_i]
      exact ⟨_, _, rfl, q, rfl, Rel_e (Rel_cS h0 m0 ea) ⟨core_cS m0.1, simM_cS m0.2⟩ hce hok⟩
end YM
