theorem dJ7_fill_53178_0 : decode cJ7_fill_53178 0 = .ok (.iconst 0, 1) := by decide +kernel
theorem dJ7_fill_53178_1 : decode cJ7_fill_53178 1 = .ok (.istore_n 2, 1) := by decide +kernel
theorem dJ7_fill_53178_2 : decode cJ7_fill_53178 2 = .ok (.aload_n 0, 1) := by decide +kernel
theorem dJ7_fill_53178_3 : decode cJ7_fill_53178 3 = .ok (.arraylength, 1) := by decide +kernel
theorem dJ7_fill_53178_4 : decode cJ7_fill_53178 4 = .ok (.istore_n 3, 1) := by decide +kernel
theorem dJ7_fill_53178_5 : decode cJ7_fill_53178 5 = .ok (.iload_n 2, 1) := by decide +kernel
theorem dJ7_fill_53178_6 : decode cJ7_fill_53178 6 = .ok (.iload_n 3, 1) := by decide +kernel
theorem dJ7_fill_53178_7 : decode cJ7_fill_53178 7 = .ok (.if_icmp .ge 13, 3) := by decide +kernel
theorem dJ7_fill_53178_10 : decode cJ7_fill_53178 10 = .ok (.aload_n 0, 1) := by decide +kernel
theorem dJ7_fill_53178_11 : decode cJ7_fill_53178 11 = .ok (.iload_n 2, 1) := by decide +kernel
theorem dJ7_fill_53178_12 : decode cJ7_fill_53178 12 = .ok (.iload_n 1, 1) := by decide +kernel
theorem dJ7_fill_53178_13 : decode cJ7_fill_53178 13 = .ok (.iastore, 1) := by decide +kernel
theorem dJ7_fill_53178_14 : decode cJ7_fill_53178 14 = .ok (.iinc 2 1, 3) := by decide +kernel
theorem dJ7_fill_53178_17 : decode cJ7_fill_53178 17 = .ok (.goto (-12), 3) := by decide +kernel
theorem dJ7_fill_53178_20 : decode cJ7_fill_53178 20 = .ok (.return_, 1) := by decide +kernel
def g_J7_fill_53178_l5 (F : Nat) (o0 N0 : Nat) (l1 : Int32) (l3 : Int32) (l2 : Int32) (u : rg_U) : Option ((Int32 × rg_U) ⊕ rg_U) :=
  if l3 ≤ l2 then (some (.inr u)) else (ck (inb l2 N0) (lt1 (sA u o0 l2 l1) (fun u3 => some (.inl ((l2 + 1), u3)))))
set_option maxHeartbeats 4000000 in
set_option maxRecDepth 100000 in
theorem k_J7_fill_53178_l5 {gs : List String} {sh : List rg_S} {ro : pm_RO} {n : Nat} {w w1 : Nat → va_E} {b : Nat} {u : rg_U} {F : Nat} {o0 N0 : Nat} {l1 : Int32} {l3 : Int32} {l2 : Int32} {z : (Int32 × rg_U) ⊕ rg_U} {Q : Option Value → Nat → (Nat → va_E) → Prop} (hR : rg sh b u n w1) (hk : rg_k b sh.length w w1) (hs0 : sh[o0]? = some (.inr (.inl (0, N0)))) (h : g_J7_fill_53178_l5 F o0 N0 l1 l3 l2 u = some z) (hc : ∀ s', z = .inl s' → ∀ w1, rg sh b s'.2 n w1 → rg_k b sh.length w w1 → pm_X gs ro M_J7_fill_53178 0 0 0 0 0 5 [some (.ref (b + o0)), some (.int l1), some (.int s'.1), some (.int l3)] [] n w1 Q) (he0 : ∀ r', z = .inr r' → ∀ w1, rg sh b r' n w1 → rg_k b sh.length w w1 → pm_X gs ro M_J7_fill_53178 0 0 0 0 0 20 [none, none, none, none] [] n w1 Q) : pm_X gs ro M_J7_fill_53178 0 0 0 0 0 5 [some (.ref (b + o0)), some (.int l1), some (.int l2), some (.int l3)] [] n w1 Q := by
  unfold g_J7_fill_53178_l5 at h
  refine pm_iload_n dJ7_fill_53178_5 rfl ?_
  refine pm_iload_n dJ7_fill_53178_6 rfl ?_
  refine pm_icmp_ge (tgt := 20) dJ7_fill_53178_7 (by decide) (fun c1 => ?_) (fun c1 => ?_)
  · replace h := it_t c1 h
    refine pm_lw (L' := [none, none, none, none]) ⟨Or.inl rfl, Or.inl rfl, Or.inl rfl, Or.inl rfl, trivial⟩ ?_
    exact he0 _ (Option.some.inj h).symm _ hR hk
  · replace h := it_f c1 h
    refine pm_aload_n dJ7_fill_53178_10 rfl ?_
    refine pm_iload_n dJ7_fill_53178_11 rfl ?_
    refine pm_iload_n dJ7_fill_53178_12 rfl ?_
    obtain ⟨c2, h⟩ := ck_some h
    obtain ⟨u3, hu4, h⟩ := lt1_ex h
    refine dx_as (j := o0) hR hk dJ7_fill_53178_13 hs0 (vp_in_iff.mpr c2) hu4 (fun w5 hR6 hk7 => ?_)
    refine pm_iinc (v := (l2 + 1)) dJ7_fill_53178_14 rfl rfl (by decide) rfl rfl ?_
    refine pm_goto (tgt := 5) dJ7_fill_53178_17 (by decide) ?_
    refine pm_lw (L' := [some (.ref (b + o0)), some (.int l1), some (.int (l2 + 1)), some (.int l3)]) ⟨Or.inr rfl, Or.inr rfl, Or.inr rfl, Or.inr rfl, trivial⟩ ?_
    exact hc _ (Option.some.inj h).symm _ hR6 hk7
def g_J7_fill_53178 (F : Nat) (o0 N0 : Nat) (x1 : Int32) (u : rg_U) : Option rg_U :=
  ob (lp (fun (s : (Int32 × rg_U)) => g_J7_fill_53178_l5 F o0 N0 x1 (Int32.ofNat N0) s.1 s.2) F ((0 : Int32), u)) (fun r8 => some r8)
set_option maxHeartbeats 4000000 in
set_option maxRecDepth 100000 in
theorem k_J7_fill_53178 {gs : List String} {sh : List rg_S} {ro : pm_RO} {n : Nat} {w : Nat → va_E} {b : Nat} {u : rg_U} {F : Nat} {o0 N0 : Nat} {x1 : Int32} {z : rg_U} (hR : rg sh b u n w) (hs0 : sh[o0]? = some (.inr (.inl (0, N0)))) (h : g_J7_fill_53178 F o0 N0 x1 u = some z) : pm_Met gs ro M_J7_fill_53178 0 0 0 [.ref (b + o0), .int x1] n w (rg_post sh b n w none z) := by
  unfold g_J7_fill_53178 at h
  refine pm_ofX in_J7_fill_53178 (Nat.le_of_ble_eq_true rfl) rfl (L := [some (.ref (b + o0)), some (.int x1), none, none]) rfl ?_
  refine pm_iconst (v := 0) dJ7_fill_53178_0 (by decide) ?_
  refine pm_istore_n dJ7_fill_53178_1 (by decide) rfl rfl ?_
  refine pm_aload_n dJ7_fill_53178_2 rfl ?_
  refine dx_len (j := o0) (v := (Int32.ofNat N0)) hR dJ7_fill_53178_3 hs0 (by first | decide | rfl) (by decide) ?_
  refine pm_istore_n dJ7_fill_53178_4 (by decide) rfl rfl ?_
  obtain ⟨r8, h9, h⟩ := ob_some h
  refine lp_sound (P := fun (s : (Int32 × rg_U)) => ∀ w1, rg sh b s.2 n w1 → rg_k b sh.length w w1 → pm_X gs ro M_J7_fill_53178 0 0 0 0 0 5 [some (.ref (b + o0)), some (.int x1), some (.int s.1), some (.int (Int32.ofNat N0))] [] n w1 (rg_post sh b n w none z)) (E := (fun (r : rg_U) => ∀ w1, rg sh b r n w1 → rg_k b sh.length w w1 → pm_X gs ro M_J7_fill_53178 0 0 0 0 0 20 [none, none, none, none] [] n w1 (rg_post sh b n w none z))) (fun s x hx hc he w1 hR1 hk1 => k_J7_fill_53178_l5 hR1 hk1 hs0 hx hc (fun r q => he r q)) F _ r8 h9 ?_ _ hR rg_k0
  intro w10 hR11 hk12
  cases h
  exact pm_vret dJ7_fill_53178_20 rfl (Nat.le_refl _) (Nat.le_refl _) ⟨rfl, rfl, hR11, hk12⟩
theorem lp_up {σ ρ : Type} {body : σ → Option (σ ⊕ ρ)} (S : Nat → σ) (N : Nat) (r : ρ) (hs : ∀ k, k < N → body (S k) = some (.inl (S (k + 1)))) (he : body (S N) = some (.inr r)) : ∀ (f k : Nat), k ≤ N → N < k + f → lp body f (S k) = some r
  | 0, k, h1, h2 => by omega
  | f + 1, k, h1, h2 => by
    by_cases hk : k = N
    · subst hk
      unfold lp
      rw [he]
    · unfold lp
      rw [hs k (by omega)]
      exact lp_up S N r hs he f (k + 1) (by omega) (by omega)
def sFill (u : rg_U) (o N : Nat) (v : Int32) : rg_U := (u.1, va_up u.2.1 o (fun i => if i < N then v else u.2.1 o i), u.2.2)
theorem sFill_0 (u : rg_U) (o : Nat) (v : Int32) : sFill u o 0 v = u := by
  unfold sFill
  have : va_up u.2.1 o (fun i => if i < 0 then v else u.2.1 o i) = u.2.1 := by
    funext j
    unfold va_up
    by_cases h : j = o
    · rw [if_pos h, h]; simp
    · rw [if_neg h]
  rw [this]
theorem sFill_s (u : rg_U) (o k : Nat) (v : Int32) : rg_R (sFill u o k v) o k v = sFill u o (k + 1) v := by
  unfold sFill rg_R
  dsimp only
  congr 2
  funext j
  unfold va_up
  by_cases h : j = o
  · rw [if_pos h, if_pos h, if_pos rfl]
    funext i
    unfold upd
    by_cases hi : i = k
    · rw [if_pos hi, if_pos (by omega)]
    · rw [if_neg hi]
      show (if i < k then v else u.2.1 o i) = if i < k + 1 then v else u.2.1 o i
      by_cases h2 : i < k
      · rw [if_pos h2, if_pos (by omega)]
      · rw [if_neg h2, if_neg (by omega)]
  · rw [if_neg h, if_neg h, if_neg h]
theorem g_fill_eq {F o N : Nat} {v : Int32} {u : rg_U} (hN : N < 2 ^ 31) (hF : N < F) : g_J7_fill_53178 F o N v u = some (sFill u o N v) := by
  unfold g_J7_fill_53178
  have h := lp_up (body := fun (s : Int32 × rg_U) => g_J7_fill_53178_l5 F o N v (Int32.ofNat N) s.1 s.2) (fun k => (nI k, sFill u o k v)) N (sFill u o N v) (fun k hk => by
    show g_J7_fill_53178_l5 F o N v (nI N) (nI k) (sFill u o k v) = _
    unfold g_J7_fill_53178_l5
    rw [if_neg (nI_ge hk hN)]
    unfold ck
    rw [if_pos (by have := nI_toInt (n := k) (by omega); constructor <;> omega)]
    unfold lt1 sA
    rw [nI_clamp (by omega), sFill_s, nI_1]) (by
    show g_J7_fill_53178_l5 F o N v (nI N) (nI N) (sFill u o N v) = _
    unfold g_J7_fill_53178_l5
    rw [if_pos (nI_le (Nat.le_refl N) hN)]) F 0 (Nat.zero_le _) (by omega)
  rw [nI_0, sFill_0] at h
  unfold ob
  rw [h]
