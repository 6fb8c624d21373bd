theorem dX10_begin_0 : decode cX10_begin 0 = .ok (.iconst 0, 1) := by decide +kernel
theorem dX10_begin_1 : decode cX10_begin 1 = .ok (.istore_n 1, 1) := by decide +kernel
theorem dX10_begin_2 : decode cX10_begin 2 = .ok (.iconst 0, 1) := by decide +kernel
theorem dX10_begin_3 : decode cX10_begin 3 = .ok (.istore_n 2, 1) := by decide +kernel
theorem dX10_begin_4 : decode cX10_begin 4 = .ok (.iload_n 2, 1) := by decide +kernel
theorem dX10_begin_5 : decode cX10_begin 5 = .ok (.bipush 64, 2) := by decide +kernel
theorem dX10_begin_7 : decode cX10_begin 7 = .ok (.if_icmp .ge 94, 3) := by decide +kernel
theorem dX10_begin_10 : decode cX10_begin 10 = .ok (.aload_n 0, 1) := by decide +kernel
theorem dX10_begin_11 : decode cX10_begin 11 = .ok (.getfield 33, 3) := by decide +kernel
theorem dX10_begin_14 : decode cX10_begin 14 = .ok (.sipush 256, 3) := by decide +kernel
theorem dX10_begin_17 : decode cX10_begin 17 = .ok (.iload_n 2, 1) := by decide +kernel
theorem dX10_begin_18 : decode cX10_begin 18 = .ok (.iadd, 1) := by decide +kernel
theorem dX10_begin_19 : decode cX10_begin 19 = .ok (.aload_n 0, 1) := by decide +kernel
theorem dX10_begin_20 : decode cX10_begin 20 = .ok (.getfield 7, 3) := by decide +kernel
theorem dX10_begin_23 : decode cX10_begin 23 = .ok (.iload_n 2, 1) := by decide +kernel
theorem dX10_begin_24 : decode cX10_begin 24 = .ok (.iaload, 1) := by decide +kernel
theorem dX10_begin_25 : decode cX10_begin 25 = .ok (.iastore, 1) := by decide +kernel
theorem dX10_begin_26 : decode cX10_begin 26 = .ok (.aload_n 0, 1) := by decide +kernel
theorem dX10_begin_27 : decode cX10_begin 27 = .ok (.getfield 36, 3) := by decide +kernel
theorem dX10_begin_30 : decode cX10_begin 30 = .ok (.sipush 256, 3) := by decide +kernel
theorem dX10_begin_33 : decode cX10_begin 33 = .ok (.iload_n 2, 1) := by decide +kernel
theorem dX10_begin_34 : decode cX10_begin 34 = .ok (.iadd, 1) := by decide +kernel
theorem dX10_begin_35 : decode cX10_begin 35 = .ok (.aload_n 0, 1) := by decide +kernel
theorem dX10_begin_36 : decode cX10_begin 36 = .ok (.getfield 13, 3) := by decide +kernel
theorem dX10_begin_39 : decode cX10_begin 39 = .ok (.iload_n 2, 1) := by decide +kernel
theorem dX10_begin_40 : decode cX10_begin 40 = .ok (.iaload, 1) := by decide +kernel
theorem dX10_begin_41 : decode cX10_begin 41 = .ok (.iastore, 1) := by decide +kernel
theorem dX10_begin_42 : decode cX10_begin 42 = .ok (.aload_n 0, 1) := by decide +kernel
theorem dX10_begin_43 : decode cX10_begin 43 = .ok (.getfield 39, 3) := by decide +kernel
theorem dX10_begin_46 : decode cX10_begin 46 = .ok (.sipush 256, 3) := by decide +kernel
theorem dX10_begin_49 : decode cX10_begin 49 = .ok (.iload_n 2, 1) := by decide +kernel
theorem dX10_begin_50 : decode cX10_begin 50 = .ok (.iadd, 1) := by decide +kernel
theorem dX10_begin_51 : decode cX10_begin 51 = .ok (.aload_n 0, 1) := by decide +kernel
theorem dX10_begin_52 : decode cX10_begin 52 = .ok (.getfield 16, 3) := by decide +kernel
theorem dX10_begin_55 : decode cX10_begin 55 = .ok (.iload_n 2, 1) := by decide +kernel
theorem dX10_begin_56 : decode cX10_begin 56 = .ok (.iaload, 1) := by decide +kernel
theorem dX10_begin_57 : decode cX10_begin 57 = .ok (.iastore, 1) := by decide +kernel
theorem dX10_begin_58 : decode cX10_begin 58 = .ok (.aload_n 0, 1) := by decide +kernel
theorem dX10_begin_59 : decode cX10_begin 59 = .ok (.getfield 42, 3) := by decide +kernel
theorem dX10_begin_62 : decode cX10_begin 62 = .ok (.sipush 256, 3) := by decide +kernel
theorem dX10_begin_65 : decode cX10_begin 65 = .ok (.iload_n 2, 1) := by decide +kernel
theorem dX10_begin_66 : decode cX10_begin 66 = .ok (.iadd, 1) := by decide +kernel
theorem dX10_begin_67 : decode cX10_begin 67 = .ok (.aload_n 0, 1) := by decide +kernel
theorem dX10_begin_68 : decode cX10_begin 68 = .ok (.getfield 19, 3) := by decide +kernel
theorem dX10_begin_71 : decode cX10_begin 71 = .ok (.iload_n 2, 1) := by decide +kernel
theorem dX10_begin_72 : decode cX10_begin 72 = .ok (.iaload, 1) := by decide +kernel
theorem dX10_begin_73 : decode cX10_begin 73 = .ok (.iastore, 1) := by decide +kernel
theorem dX10_begin_74 : decode cX10_begin 74 = .ok (.iload_n 1, 1) := by decide +kernel
theorem dX10_begin_75 : decode cX10_begin 75 = .ok (.aload_n 0, 1) := by decide +kernel
theorem dX10_begin_76 : decode cX10_begin 76 = .ok (.getfield 7, 3) := by decide +kernel
theorem dX10_begin_79 : decode cX10_begin 79 = .ok (.iload_n 2, 1) := by decide +kernel
theorem dX10_begin_80 : decode cX10_begin 80 = .ok (.iaload, 1) := by decide +kernel
theorem dX10_begin_81 : decode cX10_begin 81 = .ok (.iconst (-1), 1) := by decide +kernel
theorem dX10_begin_82 : decode cX10_begin 82 = .ok (.if_icmp .eq 7, 3) := by decide +kernel
theorem dX10_begin_85 : decode cX10_begin 85 = .ok (.iconst 1, 1) := by decide +kernel
theorem dX10_begin_86 : decode cX10_begin 86 = .ok (.goto 4, 3) := by decide +kernel
theorem dX10_begin_89 : decode cX10_begin 89 = .ok (.iconst 0, 1) := by decide +kernel
theorem dX10_begin_90 : decode cX10_begin 90 = .ok (.invokestatic 154, 3) := by decide +kernel
theorem dX10_begin_93 : decode cX10_begin 93 = .ok (.iadd, 1) := by decide +kernel
theorem dX10_begin_94 : decode cX10_begin 94 = .ok (.istore_n 1, 1) := by decide +kernel
theorem dX10_begin_95 : decode cX10_begin 95 = .ok (.iinc 2 1, 3) := by decide +kernel
theorem dX10_begin_98 : decode cX10_begin 98 = .ok (.goto (-94), 3) := by decide +kernel
theorem dX10_begin_101 : decode cX10_begin 101 = .ok (.aload_n 0, 1) := by decide +kernel
theorem dX10_begin_102 : decode cX10_begin 102 = .ok (.getfield 29, 3) := by decide +kernel
theorem dX10_begin_105 : decode cX10_begin 105 = .ok (.iconst 4, 1) := by decide +kernel
theorem dX10_begin_106 : decode cX10_begin 106 = .ok (.iconst 1, 1) := by decide +kernel
theorem dX10_begin_107 : decode cX10_begin 107 = .ok (.bastore, 1) := by decide +kernel
theorem dX10_begin_108 : decode cX10_begin 108 = .ok (.aload_n 0, 1) := by decide +kernel
theorem dX10_begin_109 : decode cX10_begin 109 = .ok (.getfield 60, 3) := by decide +kernel
theorem dX10_begin_112 : decode cX10_begin 112 = .ok (.iconst 4, 1) := by decide +kernel
theorem dX10_begin_113 : decode cX10_begin 113 = .ok (.iconst 0, 1) := by decide +kernel
theorem dX10_begin_114 : decode cX10_begin 114 = .ok (.iastore, 1) := by decide +kernel
theorem dX10_begin_115 : decode cX10_begin 115 = .ok (.aload_n 0, 1) := by decide +kernel
theorem dX10_begin_116 : decode cX10_begin 116 = .ok (.getfield 72, 3) := by decide +kernel
theorem dX10_begin_119 : decode cX10_begin 119 = .ok (.iconst 4, 1) := by decide +kernel
theorem dX10_begin_120 : decode cX10_begin 120 = .ok (.iconst 0, 1) := by decide +kernel
theorem dX10_begin_121 : decode cX10_begin 121 = .ok (.iastore, 1) := by decide +kernel
theorem dX10_begin_122 : decode cX10_begin 122 = .ok (.iconst 0, 1) := by decide +kernel
theorem dX10_begin_123 : decode cX10_begin 123 = .ok (.istore_n 2, 1) := by decide +kernel
theorem dX10_begin_124 : decode cX10_begin 124 = .ok (.iload_n 2, 1) := by decide +kernel
theorem dX10_begin_125 : decode cX10_begin 125 = .ok (.sipush 3000, 3) := by decide +kernel
theorem dX10_begin_128 : decode cX10_begin 128 = .ok (.if_icmp .gt 28, 3) := by decide +kernel
theorem dX10_begin_131 : decode cX10_begin 131 = .ok (.aload_n 0, 1) := by decide +kernel
theorem dX10_begin_132 : decode cX10_begin 132 = .ok (.getfield 75, 3) := by decide +kernel
theorem dX10_begin_135 : decode cX10_begin 135 = .ok (.iconst 4, 1) := by decide +kernel
theorem dX10_begin_136 : decode cX10_begin 136 = .ok (.iload_n 2, 1) := by decide +kernel
theorem dX10_begin_137 : decode cX10_begin 137 = .ok (.invokestatic 158, 3) := by decide +kernel
theorem dX10_begin_140 : decode cX10_begin 140 = .ok (.iload_n 2, 1) := by decide +kernel
theorem dX10_begin_141 : decode cX10_begin 141 = .ok (.ifCond .ne 7, 3) := by decide +kernel
theorem dX10_begin_144 : decode cX10_begin 144 = .ok (.iconst 1, 1) := by decide +kernel
theorem dX10_begin_145 : decode cX10_begin 145 = .ok (.goto 4, 3) := by decide +kernel
theorem dX10_begin_148 : decode cX10_begin 148 = .ok (.iconst 0, 1) := by decide +kernel
theorem dX10_begin_149 : decode cX10_begin 149 = .ok (.bastore, 1) := by decide +kernel
theorem dX10_begin_150 : decode cX10_begin 150 = .ok (.iinc 2 1, 3) := by decide +kernel
theorem dX10_begin_153 : decode cX10_begin 153 = .ok (.goto (-29), 3) := by decide +kernel
theorem dX10_begin_156 : decode cX10_begin 156 = .ok (.aload_n 0, 1) := by decide +kernel
theorem dX10_begin_157 : decode cX10_begin 157 = .ok (.getfield 78, 3) := by decide +kernel
theorem dX10_begin_160 : decode cX10_begin 160 = .ok (.iconst 4, 1) := by decide +kernel
theorem dX10_begin_161 : decode cX10_begin 161 = .ok (.iconst 0, 1) := by decide +kernel
theorem dX10_begin_162 : decode cX10_begin 162 = .ok (.iastore, 1) := by decide +kernel
theorem dX10_begin_163 : decode cX10_begin 163 = .ok (.aload_n 0, 1) := by decide +kernel
theorem dX10_begin_164 : decode cX10_begin 164 = .ok (.getfield 84, 3) := by decide +kernel
theorem dX10_begin_167 : decode cX10_begin 167 = .ok (.iconst 4, 1) := by decide +kernel
theorem dX10_begin_168 : decode cX10_begin 168 = .ok (.aload_n 0, 1) := by decide +kernel
theorem dX10_begin_169 : decode cX10_begin 169 = .ok (.getfield 22, 3) := by decide +kernel
theorem dX10_begin_172 : decode cX10_begin 172 = .ok (.iastore, 1) := by decide +kernel
theorem dX10_begin_173 : decode cX10_begin 173 = .ok (.aload_n 0, 1) := by decide +kernel
theorem dX10_begin_174 : decode cX10_begin 174 = .ok (.getfield 87, 3) := by decide +kernel
theorem dX10_begin_177 : decode cX10_begin 177 = .ok (.iconst 4, 1) := by decide +kernel
theorem dX10_begin_178 : decode cX10_begin 178 = .ok (.aload_n 0, 1) := by decide +kernel
theorem dX10_begin_179 : decode cX10_begin 179 = .ok (.getfield 26, 3) := by decide +kernel
theorem dX10_begin_182 : decode cX10_begin 182 = .ok (.iastore, 1) := by decide +kernel
theorem dX10_begin_183 : decode cX10_begin 183 = .ok (.aload_n 0, 1) := by decide +kernel
theorem dX10_begin_184 : decode cX10_begin 184 = .ok (.getfield 90, 3) := by decide +kernel
theorem dX10_begin_187 : decode cX10_begin 187 = .ok (.iconst 4, 1) := by decide +kernel
theorem dX10_begin_188 : decode cX10_begin 188 = .ok (.iconst 0, 1) := by decide +kernel
theorem dX10_begin_189 : decode cX10_begin 189 = .ok (.iastore, 1) := by decide +kernel
theorem dX10_begin_190 : decode cX10_begin 190 = .ok (.aload_n 0, 1) := by decide +kernel
theorem dX10_begin_191 : decode cX10_begin 191 = .ok (.getfield 93, 3) := by decide +kernel
theorem dX10_begin_194 : decode cX10_begin 194 = .ok (.iconst 4, 1) := by decide +kernel
theorem dX10_begin_195 : decode cX10_begin 195 = .ok (.iconst 1, 1) := by decide +kernel
theorem dX10_begin_196 : decode cX10_begin 196 = .ok (.iastore, 1) := by decide +kernel
theorem dX10_begin_197 : decode cX10_begin 197 = .ok (.aload_n 0, 1) := by decide +kernel
theorem dX10_begin_198 : decode cX10_begin 198 = .ok (.getfield 96, 3) := by decide +kernel
theorem dX10_begin_201 : decode cX10_begin 201 = .ok (.iconst 4, 1) := by decide +kernel
theorem dX10_begin_202 : decode cX10_begin 202 = .ok (.iconst 0, 1) := by decide +kernel
theorem dX10_begin_203 : decode cX10_begin 203 = .ok (.iastore, 1) := by decide +kernel
theorem dX10_begin_204 : decode cX10_begin 204 = .ok (.aload_n 0, 1) := by decide +kernel
theorem dX10_begin_205 : decode cX10_begin 205 = .ok (.aload_n 0, 1) := by decide +kernel
theorem dX10_begin_206 : decode cX10_begin 206 = .ok (.getfield 102, 3) := by decide +kernel
theorem dX10_begin_209 : decode cX10_begin 209 = .ok (.invokevirtual 162, 3) := by decide +kernel
theorem dX10_begin_212 : decode cX10_begin 212 = .ok (.aload_n 0, 1) := by decide +kernel
theorem dX10_begin_213 : decode cX10_begin 213 = .ok (.iconst 0, 1) := by decide +kernel
theorem dX10_begin_214 : decode cX10_begin 214 = .ok (.putfield 166, 3) := by decide +kernel
theorem dX10_begin_217 : decode cX10_begin 217 = .ok (.aload_n 0, 1) := by decide +kernel
theorem dX10_begin_218 : decode cX10_begin 218 = .ok (.iconst (-1), 1) := by decide +kernel
theorem dX10_begin_219 : decode cX10_begin 219 = .ok (.putfield 117, 3) := by decide +kernel
theorem dX10_begin_222 : decode cX10_begin 222 = .ok (.iload_n 1, 1) := by decide +kernel
theorem dX10_begin_223 : decode cX10_begin 223 = .ok (.ireturn, 1) := by decide +kernel
/-- begin: the program is copied, k of its places by now -/
def mb1 (u : rg_U) : Nat → rg_U
  | 0 => u
  | k + 1 => rg_R (rg_R (rg_R (rg_R (mb1 u k) 6 (256 + (nI k)).toNatClampNeg ((mb1 u k).2.1 1 (nI k).toNatClampNeg)) 7 (256 + (nI k)).toNatClampNeg ((mb1 u k).2.1 2 (nI k).toNatClampNeg)) 8 (256 + (nI k)).toNatClampNeg ((mb1 u k).2.1 3 (nI k).toNatClampNeg)) 9 (256 + (nI k)).toNatClampNeg ((mb1 u k).2.1 4 (nI k).toNatClampNeg)
/-- how many instructions there are among the first k places -/
def mn1 (u : rg_U) : Nat → Nat
  | 0 => 0
  | k + 1 => mn1 u k + (if (mb1 u (k + 1)).2.1 1 (nI k).toNatClampNeg = -1 then 0 else 1)
def mb2 (u : rg_U) : Nat → rg_U
  | 0 => u
  | k + 1 => rg_R (mb2 u k) 20 (md_heldAt 4 (nI k)).toNatClampNeg (vp_nar .boolean (if k = 0 then 1 else 0))
theorem mn1_pos {u : rg_U} {k : Nat} (h : (mb1 u (k + 1)).2.1 1 (nI k).toNatClampNeg = -1) : nI (mn1 u k) + md_one 0 = nI (mn1 u (k + 1)) := by
  show _ = nI (mn1 u k + (if (mb1 u (k + 1)).2.1 1 (nI k).toNatClampNeg = -1 then 0 else 1))
  rw [if_pos h]
  simp [md_one]
theorem mn1_neg {u : rg_U} {k : Nat} (h : ¬ (mb1 u (k + 1)).2.1 1 (nI k).toNatClampNeg = -1) : nI (mn1 u k) + md_one 1 = nI (mn1 u (k + 1)) := by
  show _ = nI (mn1 u k + (if (mb1 u (k + 1)).2.1 1 (nI k).toNatClampNeg = -1 then 0 else 1))
  rw [if_neg h]
  exact nI_1 _
theorem in256 {k : Nat} (h : k < 64) : vp_in (256 + nI k) 320 := by
  rw [show (256 : Int32) + nI k = nI (256 + k) from nI_add 256 k]
  exact vp_in_nI (by omega) (by decide)
theorem heldAt4 (k : Nat) : md_heldAt 4 (nI k) = nI (12004 + k) := by
  show (3001 : Int32) * 4 + nI k = _
  rw [show (3001 : Int32) * 4 = nI 12004 from by decide]
  exact nI_add _ _
theorem inheld {k : Nat} (h : k < 3001) : vp_in (md_heldAt 4 (nI k)) 15005 := by
  rw [heldAt4]
  exact vp_in_nI (by omega) (by decide)
def mu_begin (u : rg_U) : rg_U := (rg_F (rg_F (mu_clears (rg_R (rg_R (rg_R (rg_R (rg_R (rg_R (mb2 (rg_R (rg_R (rg_R (mb1 u 64) 5 4 (vp_nar .boolean 1)) 15 4 0) 19 4 0) 3001) 21 4 0) 23 4 ((rg_R (mb2 (rg_R (rg_R (rg_R (mb1 u 64) 5 4 (vp_nar .boolean 1)) 15 4 0) 19 4 0) 3001) 21 4 0).1 4)) 24 4 ((rg_R (rg_R (mb2 (rg_R (rg_R (rg_R (mb1 u 64) 5 4 (vp_nar .boolean 1)) 15 4 0) 19 4 0) 3001) 21 4 0) 23 4 ((rg_R (mb2 (rg_R (rg_R (rg_R (mb1 u 64) 5 4 (vp_nar .boolean 1)) 15 4 0) 19 4 0) 3001) 21 4 0).1 4)).1 5)) 25 4 0) 26 4 1) 27 4 0) 28 134) 33 0) 41 (-1))
set_option maxHeartbeats 4000000 in
set_option maxRecDepth 100000 in
theorem k_X10_begin {gs : List String} {ro : pm_RO} {n : Nat} {w : Nat → va_E} {b : Nat} {u : rg_U} (hR : rg shM b u n w)  : pm_Met gs ro M_X10_begin 1 0 0 [.ref (b + 0)] n w (rg_post shM b n w (some (.int (nI (mn1 u 64)))) (mu_begin u)) := by
  refine pm_ofX in_X10_begin (Nat.le_of_ble_eq_true rfl) rfl (L := [some (.ref (b + 0)), none, none]) rfl ?_
  refine pm_iconst (v := 0) dX10_begin_0 (by decide) ?_
  refine pm_istore_n dX10_begin_1 (by decide) rfl rfl ?_
  refine pm_iconst (v := 0) dX10_begin_2 (by decide) ?_
  refine pm_istore_n dX10_begin_3 (by decide) rfl rfl ?_
  have LP : ∀ (f k : Nat) (w1 : Nat → va_E), k + f = 64 → rg shM b (mb1 u k) n w1 → rg_k b shM.length w w1 → pm_X gs ro M_X10_begin 1 0 0 0 0 4 [some (.ref (b + 0)), some (.int (nI (mn1 u k))), some (.int (nI k))] [] n w1 (rg_post shM b n w (some (.int (nI (mn1 u 64)))) (mu_begin u)) := by
    intro f
    induction f with
    | zero =>
      intro k w1 hk hR2 hk3
      have hk : k = 64 := hk
      subst hk
      refine pm_iload_n dX10_begin_4 rfl ?_
      refine pm_bipush (v := 64) dX10_begin_5 (by decide) ?_
      refine pm_icmp_ge (tgt := 101) dX10_begin_7 (by decide) (fun c_7 => ?_) (fun c_7 => absurd (by decide) c_7)
      refine pm_aload_n dX10_begin_101 rfl ?_
      refine rg_gr (j := 0) (o := 5) hR2 dX10_begin_102 fl_X10_29 rfl rfl ?_
      refine pm_iconst (v := 4) dX10_begin_105 (by decide) ?_
      refine pm_iconst (v := 1) dX10_begin_106 (by decide) ?_
      refine rg_zs (j := 5) hR2 dX10_begin_107 rfl (by unfold vp_in; decide) (fun w4 hR5 hk6 => ?_)
      have hk7 := rg_kt hk3 hk6
      refine pm_aload_n dX10_begin_108 rfl ?_
      refine rg_gr (j := 0) (o := 15) hR5 dX10_begin_109 fl_X10_60 rfl rfl ?_
      refine pm_iconst (v := 4) dX10_begin_112 (by decide) ?_
      refine pm_iconst (v := 0) dX10_begin_113 (by decide) ?_
      refine rg_as (j := 15) hR5 dX10_begin_114 rfl (by unfold vp_in; decide) (fun w8 hR9 hk10 => ?_)
      have hk11 := rg_kt hk7 hk10
      refine pm_aload_n dX10_begin_115 rfl ?_
      refine rg_gr (j := 0) (o := 19) hR9 dX10_begin_116 fl_X10_72 rfl rfl ?_
      refine pm_iconst (v := 4) dX10_begin_119 (by decide) ?_
      refine pm_iconst (v := 0) dX10_begin_120 (by decide) ?_
      refine rg_as (j := 19) hR9 dX10_begin_121 rfl (by unfold vp_in; decide) (fun w12 hR13 hk14 => ?_)
      have hk15 := rg_kt hk11 hk14
      refine pm_iconst (v := 0) dX10_begin_122 (by decide) ?_
      refine pm_istore_n dX10_begin_123 (by decide) rfl rfl ?_
      have LP : ∀ (f k : Nat) (w16 : Nat → va_E), k + f = 3001 → rg shM b (mb2 (rg_R (rg_R (rg_R (mb1 u 64) 5 4 (vp_nar .boolean 1)) 15 4 0) 19 4 0) k) n w16 → rg_k b shM.length w w16 → pm_X gs ro M_X10_begin 1 0 0 0 0 124 [some (.ref (b + 0)), some (.int (nI (mn1 u 64))), some (.int (nI k))] [] n w16 (rg_post shM b n w (some (.int (nI (mn1 u 64)))) (mu_begin u)) := by
        intro f
        induction f with
        | zero =>
          intro k w16 hk hR17 hk18
          have hk : k = 3001 := hk
          subst hk
          refine pm_iload_n dX10_begin_124 rfl ?_
          refine pm_sipush (v := 3000) dX10_begin_125 (by decide) ?_
          refine pm_icmp_gt (tgt := 156) dX10_begin_128 (by decide) (fun c_128 => ?_) (fun c_128 => absurd (by decide) c_128)
          refine pm_aload_n dX10_begin_156 rfl ?_
          refine rg_gr (j := 0) (o := 21) hR17 dX10_begin_157 fl_X10_78 rfl rfl ?_
          refine pm_iconst (v := 4) dX10_begin_160 (by decide) ?_
          refine pm_iconst (v := 0) dX10_begin_161 (by decide) ?_
          refine rg_as (j := 21) hR17 dX10_begin_162 rfl (by unfold vp_in; decide) (fun w19 hR20 hk21 => ?_)
          have hk22 := rg_kt hk18 hk21
          refine pm_aload_n dX10_begin_163 rfl ?_
          refine rg_gr (j := 0) (o := 23) hR20 dX10_begin_164 fl_X10_84 rfl rfl ?_
          refine pm_iconst (v := 4) dX10_begin_167 (by decide) ?_
          refine pm_aload_n dX10_begin_168 rfl ?_
          refine rg_gi (j := 0) hR20 dX10_begin_169 fl_X10_22 rfl rfl ?_
          refine rg_as (j := 23) hR20 dX10_begin_172 rfl (by unfold vp_in; decide) (fun w23 hR24 hk25 => ?_)
          have hk26 := rg_kt hk22 hk25
          refine pm_aload_n dX10_begin_173 rfl ?_
          refine rg_gr (j := 0) (o := 24) hR24 dX10_begin_174 fl_X10_87 rfl rfl ?_
          refine pm_iconst (v := 4) dX10_begin_177 (by decide) ?_
          refine pm_aload_n dX10_begin_178 rfl ?_
          refine rg_gi (j := 0) hR24 dX10_begin_179 fl_X10_26 rfl rfl ?_
          refine rg_as (j := 24) hR24 dX10_begin_182 rfl (by unfold vp_in; decide) (fun w27 hR28 hk29 => ?_)
          have hk30 := rg_kt hk26 hk29
          refine pm_aload_n dX10_begin_183 rfl ?_
          refine rg_gr (j := 0) (o := 25) hR28 dX10_begin_184 fl_X10_90 rfl rfl ?_
          refine pm_iconst (v := 4) dX10_begin_187 (by decide) ?_
          refine pm_iconst (v := 0) dX10_begin_188 (by decide) ?_
          refine rg_as (j := 25) hR28 dX10_begin_189 rfl (by unfold vp_in; decide) (fun w31 hR32 hk33 => ?_)
          have hk34 := rg_kt hk30 hk33
          refine pm_aload_n dX10_begin_190 rfl ?_
          refine rg_gr (j := 0) (o := 26) hR32 dX10_begin_191 fl_X10_93 rfl rfl ?_
          refine pm_iconst (v := 4) dX10_begin_194 (by decide) ?_
          refine pm_iconst (v := 1) dX10_begin_195 (by decide) ?_
          refine rg_as (j := 26) hR32 dX10_begin_196 rfl (by unfold vp_in; decide) (fun w35 hR36 hk37 => ?_)
          have hk38 := rg_kt hk34 hk37
          refine pm_aload_n dX10_begin_197 rfl ?_
          refine rg_gr (j := 0) (o := 27) hR36 dX10_begin_198 fl_X10_96 rfl rfl ?_
          refine pm_iconst (v := 4) dX10_begin_201 (by decide) ?_
          refine pm_iconst (v := 0) dX10_begin_202 (by decide) ?_
          refine rg_as (j := 27) hR36 dX10_begin_203 rfl (by unfold vp_in; decide) (fun w39 hR40 hk41 => ?_)
          have hk42 := rg_kt hk38 hk41
          refine pm_aload_n dX10_begin_204 rfl ?_
          refine pm_aload_n dX10_begin_205 rfl ?_
          refine rg_gr (j := 0) (o := 28) hR40 dX10_begin_206 fl_X10_102 rfl rfl ?_
          refine rg_cV (M := M_X10_begin) (Mc := M_X10_clears) (j := 0) (dc := 0) (As := [.ref (b + 28)]) (st := []) hR40 dX10_begin_209 ml_X10_162 ⟨TX10, 55, rfl⟩ rfl (by decide) (Nat.le_refl _) (Nat.le_refl _) (Nat.le_of_ble_eq_true rfl) rfl (k_X10_clears_live hR40) (fun r n1 w43 hq => ?_)
          obtain ⟨e1, e2, hR44, hk45⟩ := hq
          rw [e1, e2]
          clear e1 e2
          dsimp only [Option.toList, List.cons_append, List.nil_append]
          have hk46 := rg_kt hk42 hk45
          refine pm_aload_n dX10_begin_212 rfl ?_
          refine pm_iconst (v := 0) dX10_begin_213 (by decide) ?_
          refine rg_pi (j := 0) hR44 dX10_begin_214 fl_X10_166 rfl rfl (fun w47 hR48 hk49 => ?_)
          have hk50 := rg_kt hk46 hk49
          refine pm_aload_n dX10_begin_217 rfl ?_
          refine pm_iconst (v := (-1)) dX10_begin_218 (by decide) ?_
          refine rg_pi (j := 0) hR48 dX10_begin_219 fl_X10_117 rfl rfl (fun w51 hR52 hk53 => ?_)
          have hk54 := rg_kt hk50 hk53
          refine pm_iload_n dX10_begin_222 rfl ?_
          refine pm_iret dX10_begin_223 rfl (Nat.zero_le _) (Nat.zero_le _) ?_
          refine ⟨?_, rfl, ?_, hk54⟩
          · rfl
          · exact hR52
        | succ f ih =>
          intro k w16 hk hR17 hk18
          have hlt : k < 3001 := by omega
          refine pm_iload_n dX10_begin_124 rfl ?_
          refine pm_sipush (v := 3000) dX10_begin_125 (by decide) ?_
          refine pm_icmp_gt (tgt := 156) dX10_begin_128 (by decide) (fun c_128 => absurd c_128 (nI_nlt (a := 3000) (b := k) (by omega) (by decide))) (fun c_128 => ?_)
          refine pm_aload_n dX10_begin_131 rfl ?_
          refine rg_gr (j := 0) (o := 20) hR17 dX10_begin_132 fl_X10_75 rfl rfl ?_
          refine pm_iconst (v := 4) dX10_begin_135 (by decide) ?_
          refine pm_iload_n dX10_begin_136 rfl ?_
          refine pm_callS (M := M_X10_begin) (Mc := M_X10_heldAt) (roc := ro) (dc := 0) (mcc := 0) (msc := 0) (As := [.int 4, .int (nI k)]) (st := [.ref (b + 20)]) dX10_begin_137 ml_X10_158 (fun _ _ h => h) (by decide) (Nat.le_refl _) (Nat.le_refl _) (Nat.le_of_ble_eq_true rfl) rfl (k_X10_heldAt _ _ _ _) (fun r n1 w1 hq _ => ?_)
          obtain ⟨e1, e2, e3⟩ := hq
          rw [e1, e2, e3]
          clear e1 e2 e3
          dsimp only [Option.toList, List.cons_append, List.nil_append]
          refine pm_iload_n dX10_begin_140 rfl ?_
          refine pm_if_ne (tgt := 148) dX10_begin_141 (by decide) (fun c_141 => ?_) (fun c_141 => ?_)
          · refine pm_iconst (v := 0) dX10_begin_148 (by decide) ?_
            refine pm_i (y := (if k = 0 then 1 else 0)) (by first | (rw [if_pos (nI_zz c_141 (by omega))]; done) | (rw [if_neg (nI_nz c_141)]; done)) ?_
            refine rg_zs (j := 20) hR17 dX10_begin_149 rfl (inheld hlt) (fun w55 hR56 hk57 => ?_)
            have hk58 := rg_kt hk18 hk57
            refine pm_iinc (v := (nI (k + 1))) dX10_begin_150 rfl (nI_1 _) (by decide) rfl rfl ?_
            refine pm_goto (tgt := 124) dX10_begin_153 (by decide) ?_
            exact ih (k + 1) _ (by omega) hR56 hk58
          · refine pm_iconst (v := 1) dX10_begin_144 (by decide) ?_
            refine pm_goto (tgt := 149) dX10_begin_145 (by decide) ?_
            refine pm_i (y := (if k = 0 then 1 else 0)) (by first | (rw [if_pos (nI_zz c_141 (by omega))]; done) | (rw [if_neg (nI_nz c_141)]; done)) ?_
            refine rg_zs (j := 20) hR17 dX10_begin_149 rfl (inheld hlt) (fun w59 hR60 hk61 => ?_)
            have hk62 := rg_kt hk18 hk61
            refine pm_iinc (v := (nI (k + 1))) dX10_begin_150 rfl (nI_1 _) (by decide) rfl rfl ?_
            refine pm_goto (tgt := 124) dX10_begin_153 (by decide) ?_
            exact ih (k + 1) _ (by omega) hR60 hk62
      have LP0 := LP (3001) 0 _ (Nat.zero_add _) hR13 hk15
      first | exact LP0 | (rw [nI_0] at LP0; exact LP0)
    | succ f ih =>
      intro k w1 hk hR2 hk3
      have hlt : k < 64 := by omega
      refine pm_iload_n dX10_begin_4 rfl ?_
      refine pm_bipush (v := 64) dX10_begin_5 (by decide) ?_
      refine pm_icmp_ge (tgt := 101) dX10_begin_7 (by decide) (fun c_7 => absurd c_7 (nI_ge (b := 64) hlt (by decide))) (fun c_7 => ?_)
      refine pm_aload_n dX10_begin_10 rfl ?_
      refine rg_gr (j := 0) (o := 6) hR2 dX10_begin_11 fl_X10_33 rfl rfl ?_
      refine pm_sipush (v := 256) dX10_begin_14 (by decide) ?_
      refine pm_iload_n dX10_begin_17 rfl ?_
      refine pm_iadd dX10_begin_18 ?_
      refine pm_aload_n dX10_begin_19 rfl ?_
      refine rg_gr (j := 0) (o := 1) hR2 dX10_begin_20 fl_X10_7 rfl rfl ?_
      refine pm_iload_n dX10_begin_23 rfl ?_
      refine rg_al (j := 1) hR2 dX10_begin_24 rfl (vp_in_nI hlt (by decide)) ?_
      refine rg_as (j := 6) hR2 dX10_begin_25 rfl (in256 hlt) (fun w63 hR64 hk65 => ?_)
      have hk66 := rg_kt hk3 hk65
      refine pm_aload_n dX10_begin_26 rfl ?_
      refine rg_gr (j := 0) (o := 7) hR64 dX10_begin_27 fl_X10_36 rfl rfl ?_
      refine pm_sipush (v := 256) dX10_begin_30 (by decide) ?_
      refine pm_iload_n dX10_begin_33 rfl ?_
      refine pm_iadd dX10_begin_34 ?_
      refine pm_aload_n dX10_begin_35 rfl ?_
      refine rg_gr (j := 0) (o := 2) hR64 dX10_begin_36 fl_X10_13 rfl rfl ?_
      refine pm_iload_n dX10_begin_39 rfl ?_
      refine rg_al (j := 2) hR64 dX10_begin_40 rfl (vp_in_nI hlt (by decide)) ?_
      refine rg_as (j := 7) hR64 dX10_begin_41 rfl (in256 hlt) (fun w67 hR68 hk69 => ?_)
      have hk70 := rg_kt hk66 hk69
      refine pm_aload_n dX10_begin_42 rfl ?_
      refine rg_gr (j := 0) (o := 8) hR68 dX10_begin_43 fl_X10_39 rfl rfl ?_
      refine pm_sipush (v := 256) dX10_begin_46 (by decide) ?_
      refine pm_iload_n dX10_begin_49 rfl ?_
      refine pm_iadd dX10_begin_50 ?_
      refine pm_aload_n dX10_begin_51 rfl ?_
      refine rg_gr (j := 0) (o := 3) hR68 dX10_begin_52 fl_X10_16 rfl rfl ?_
      refine pm_iload_n dX10_begin_55 rfl ?_
      refine rg_al (j := 3) hR68 dX10_begin_56 rfl (vp_in_nI hlt (by decide)) ?_
      refine rg_as (j := 8) hR68 dX10_begin_57 rfl (in256 hlt) (fun w71 hR72 hk73 => ?_)
      have hk74 := rg_kt hk70 hk73
      refine pm_aload_n dX10_begin_58 rfl ?_
      refine rg_gr (j := 0) (o := 9) hR72 dX10_begin_59 fl_X10_42 rfl rfl ?_
      refine pm_sipush (v := 256) dX10_begin_62 (by decide) ?_
      refine pm_iload_n dX10_begin_65 rfl ?_
      refine pm_iadd dX10_begin_66 ?_
      refine pm_aload_n dX10_begin_67 rfl ?_
      refine rg_gr (j := 0) (o := 4) hR72 dX10_begin_68 fl_X10_19 rfl rfl ?_
      refine pm_iload_n dX10_begin_71 rfl ?_
      refine rg_al (j := 4) hR72 dX10_begin_72 rfl (vp_in_nI hlt (by decide)) ?_
      refine rg_as (j := 9) hR72 dX10_begin_73 rfl (in256 hlt) (fun w75 hR76 hk77 => ?_)
      have hk78 := rg_kt hk74 hk77
      refine pm_iload_n dX10_begin_74 rfl ?_
      refine pm_aload_n dX10_begin_75 rfl ?_
      refine rg_gr (j := 0) (o := 1) hR76 dX10_begin_76 fl_X10_7 rfl rfl ?_
      refine pm_iload_n dX10_begin_79 rfl ?_
      refine rg_al (j := 1) hR76 dX10_begin_80 rfl (vp_in_nI hlt (by decide)) ?_
      refine pm_iconst (v := (-1)) dX10_begin_81 (by decide) ?_
      refine pm_icmp_eq (tgt := 89) dX10_begin_82 (by decide) (fun c_82 => ?_) (fun c_82 => ?_)
      · refine pm_iconst (v := 0) dX10_begin_89 (by decide) ?_
        refine pm_callS (M := M_X10_begin) (Mc := M_X10_one) (roc := ro) (dc := 0) (mcc := 0) (msc := 0) (As := [.int 0]) (st := [.int (nI (mn1 u k))]) dX10_begin_90 ml_X10_154 (fun _ _ h => h) (by decide) (Nat.le_refl _) (Nat.le_refl _) (Nat.le_of_ble_eq_true rfl) rfl (k_X10_one _ _ _) (fun r n1 w1 hq _ => ?_)
        obtain ⟨e1, e2, e3⟩ := hq
        rw [e1, e2, e3]
        clear e1 e2 e3
        dsimp only [Option.toList, List.cons_append, List.nil_append]
        refine pm_iadd dX10_begin_93 ?_
        refine pm_i (y := (nI (mn1 u (k + 1)))) (by first | exact mn1_pos c_82 | exact mn1_neg c_82) ?_
        refine pm_istore_n dX10_begin_94 (by decide) rfl rfl ?_
        refine pm_iinc (v := (nI (k + 1))) dX10_begin_95 rfl (nI_1 _) (by decide) rfl rfl ?_
        refine pm_goto (tgt := 4) dX10_begin_98 (by decide) ?_
        exact ih (k + 1) _ (by omega) hR76 hk78
      · refine pm_iconst (v := 1) dX10_begin_85 (by decide) ?_
        refine pm_goto (tgt := 90) dX10_begin_86 (by decide) ?_
        refine pm_callS (M := M_X10_begin) (Mc := M_X10_one) (roc := ro) (dc := 0) (mcc := 0) (msc := 0) (As := [.int 1]) (st := [.int (nI (mn1 u k))]) dX10_begin_90 ml_X10_154 (fun _ _ h => h) (by decide) (Nat.le_refl _) (Nat.le_refl _) (Nat.le_of_ble_eq_true rfl) rfl (k_X10_one _ _ _) (fun r n1 w1 hq _ => ?_)
        obtain ⟨e1, e2, e3⟩ := hq
        rw [e1, e2, e3]
        clear e1 e2 e3
        dsimp only [Option.toList, List.cons_append, List.nil_append]
        refine pm_iadd dX10_begin_93 ?_
        refine pm_i (y := (nI (mn1 u (k + 1)))) (by first | exact mn1_pos c_82 | exact mn1_neg c_82) ?_
        refine pm_istore_n dX10_begin_94 (by decide) rfl rfl ?_
        refine pm_iinc (v := (nI (k + 1))) dX10_begin_95 rfl (nI_1 _) (by decide) rfl rfl ?_
        refine pm_goto (tgt := 4) dX10_begin_98 (by decide) ?_
        exact ih (k + 1) _ (by omega) hR76 hk78
  have LP0 := LP (64) 0 _ (Nat.zero_add _) hR rg_k0
  first | exact LP0 | (rw [nI_0] at LP0; exact LP0)
