/-! THE REFERENCE: small things; the units that are taken -/
section MR
variable {d : Nat} {im : zM} {Q : Option zV → zM → Prop} {a b v dv kd sl i j k f e bu : Int}
theorem c_busAt (h : 0 ≤ k ∧ k ≤ 1) (hb : 0 ≤ bu ∧ bu ≤ 20) : CallP d 172 [.inl k, .inl bu] im Q ↔ Q (some (.inl (21 * k + bu))) im := by
  simp (disch := omega) only [en_172, wp_ireturn rk_172, pg_172_0, wp_iload, wp_aload, wp_istore, wp_astore, wp_iinc, wp_iconst, wp_dup, wp_dup2, wp_pop, wp_iadd, wp_isub, wp_imul, wp_idiv, wp_irem, wp_ineg, wp_iand, wp_ior, wp_ixor, wp_ishl, wp_ishr, wp_getI, wp_putI, wp_getR, wp_goto, wp_goto_w, wq_if_eq, wq_if_ne, wq_if_lt, wq_if_ge, wq_if_gt, wq_if_le, wq_icmp_eq, wq_icmp_ne, wq_icmp_lt, wq_icmp_ge, wq_icmp_gt, wq_icmp_le, wp_max, wp_min, kI_inl, kR_some, kN_inl, kO_some, KT_none, KT_some, List.length_cons, List.length_nil, Nat.reduceAdd, Nat.reduceLT, Nat.reduceLeDiff, Nat.reduceMod, Nat.reduceDiv, true_and, and_true, Int.reduceLE, Int.reduceNeg, Int.reduceLT, Int.cast_ofNat_Int, Nat.zero_le, zI, Int.reduceAdd, Int.reduceSub, Int.reduceMul, not_true_eq_false, not_false_eq_true, false_implies, true_implies, i01_0, i01_1, ite_not, ↓reduceIte, zget_0, zget_1, zget_2, zget_3, zget_4, zget_5, zget_6, zget_7, zget_8, zget_9, zget_10, zset_0, zset_1, zset_2, zset_3, zset_4, zset_5, zset_6, zset_7, zset_8, zset_9, zset_10]
  try (repeat (refine (and_iff_right (by omega)).trans ?_))
  try exact Iff.rfl
theorem c_thingAt (h : 0 ≤ k ∧ k ≤ 1) (hb : 0 ≤ v ∧ v < 80) : CallP d 173 [.inl k, .inl v] im Q ↔ Q (some (.inl (80 * k + v))) im := by
  simp (disch := omega) only [en_173, wp_ireturn rk_173, pg_173_0, wp_iload, wp_aload, wp_istore, wp_astore, wp_iinc, wp_iconst, wp_dup, wp_dup2, wp_pop, wp_iadd, wp_isub, wp_imul, wp_idiv, wp_irem, wp_ineg, wp_iand, wp_ior, wp_ixor, wp_ishl, wp_ishr, wp_getI, wp_putI, wp_getR, wp_goto, wp_goto_w, wq_if_eq, wq_if_ne, wq_if_lt, wq_if_ge, wq_if_gt, wq_if_le, wq_icmp_eq, wq_icmp_ne, wq_icmp_lt, wq_icmp_ge, wq_icmp_gt, wq_icmp_le, wp_max, wp_min, kI_inl, kR_some, kN_inl, kO_some, KT_none, KT_some, List.length_cons, List.length_nil, Nat.reduceAdd, Nat.reduceLT, Nat.reduceLeDiff, Nat.reduceMod, Nat.reduceDiv, true_and, and_true, Int.reduceLE, Int.reduceNeg, Int.reduceLT, Int.cast_ofNat_Int, Nat.zero_le, zI, Int.reduceAdd, Int.reduceSub, Int.reduceMul, not_true_eq_false, not_false_eq_true, false_implies, true_implies, i01_0, i01_1, ite_not, ↓reduceIte, zget_0, zget_1, zget_2, zget_3, zget_4, zget_5, zget_6, zget_7, zget_8, zget_9, zget_10, zset_0, zset_1, zset_2, zset_3, zset_4, zset_5, zset_6, zset_7, zset_8, zset_9, zset_10]
  try (repeat (refine (and_iff_right (by omega)).trans ?_))
  try exact Iff.rfl
def deM (v : Int) : Int := if v < 60 then v / 3 else v - 60
theorem dm3 (h : 0 ≤ v) : v.tdiv 3 = v / 3 ∧ v.tmod 3 = v % 3 := ⟨Int.tdiv_eq_ediv_of_nonneg h, Int.tmod_eq_emod_of_nonneg h⟩
theorem c_deviceOf (hb : 0 ≤ v ∧ v < 80) : CallP d 174 [.inl v] im Q ↔ Q (some (.inl (deM v))) im := by
  have h3 := dm3 hb.1
  by_cases c : v < 60
  · simp (disch := omega) only [en_174, wp_ireturn rk_174, pg_174_0, pg_174_12, pg_174_16, wp_iload, wp_aload, wp_istore, wp_astore, wp_iinc, wp_iconst, wp_dup, wp_dup2, wp_pop, wp_iadd, wp_isub, wp_imul, wp_idiv, wp_irem, wp_ineg, wp_iand, wp_ior, wp_ixor, wp_ishl, wp_ishr, wp_getI, wp_putI, wp_getR, wp_goto, wp_goto_w, wq_if_eq, wq_if_ne, wq_if_lt, wq_if_ge, wq_if_gt, wq_if_le, wq_icmp_eq, wq_icmp_ne, wq_icmp_lt, wq_icmp_ge, wq_icmp_gt, wq_icmp_le, wp_max, wp_min, kI_inl, kR_some, kN_inl, kO_some, KT_none, KT_some, List.length_cons, List.length_nil, Nat.reduceAdd, Nat.reduceLT, Nat.reduceLeDiff, Nat.reduceMod, Nat.reduceDiv, true_and, and_true, Int.reduceLE, Int.reduceNeg, Int.reduceLT, Int.cast_ofNat_Int, Nat.zero_le, zI, Int.reduceAdd, Int.reduceSub, Int.reduceMul, not_true_eq_false, not_false_eq_true, false_implies, true_implies, i01_0, i01_1, ite_not, ↓reduceIte, zget_0, zget_1, zget_2, zget_3, zget_4, zget_5, zget_6, zget_7, zget_8, zget_9, zget_10, zset_0, zset_1, zset_2, zset_3, zset_4, zset_5, zset_6, zset_7, zset_8, zset_9, zset_10, h3, deM, c, show ¬ 60 ≤ v by omega, if_true, if_false]
    try (repeat (refine (and_iff_right (by omega)).trans ?_))
    try exact Iff.rfl
  · simp (disch := omega) only [en_174, wp_ireturn rk_174, pg_174_0, pg_174_12, pg_174_16, wp_iload, wp_aload, wp_istore, wp_astore, wp_iinc, wp_iconst, wp_dup, wp_dup2, wp_pop, wp_iadd, wp_isub, wp_imul, wp_idiv, wp_irem, wp_ineg, wp_iand, wp_ior, wp_ixor, wp_ishl, wp_ishr, wp_getI, wp_putI, wp_getR, wp_goto, wp_goto_w, wq_if_eq, wq_if_ne, wq_if_lt, wq_if_ge, wq_if_gt, wq_if_le, wq_icmp_eq, wq_icmp_ne, wq_icmp_lt, wq_icmp_ge, wq_icmp_gt, wq_icmp_le, wp_max, wp_min, kI_inl, kR_some, kN_inl, kO_some, KT_none, KT_some, List.length_cons, List.length_nil, Nat.reduceAdd, Nat.reduceLT, Nat.reduceLeDiff, Nat.reduceMod, Nat.reduceDiv, true_and, and_true, Int.reduceLE, Int.reduceNeg, Int.reduceLT, Int.cast_ofNat_Int, Nat.zero_le, zI, Int.reduceAdd, Int.reduceSub, Int.reduceMul, not_true_eq_false, not_false_eq_true, false_implies, true_implies, i01_0, i01_1, ite_not, ↓reduceIte, zget_0, zget_1, zget_2, zget_3, zget_4, zget_5, zget_6, zget_7, zget_8, zget_9, zget_10, zset_0, zset_1, zset_2, zset_3, zset_4, zset_5, zset_6, zset_7, zset_8, zset_9, zset_10, h3, deM, c, show 60 ≤ v by omega, if_true, if_false]
    try (repeat (refine (and_iff_right (by omega)).trans ?_))
    try exact Iff.rfl
def buM (A : Int → Int) (e : Int) : Int := if A (23 * e + 2) < 0 then 20 else A (23 * e + 2)
theorem c_busOf (hd : 0 ≤ dv ∧ dv < 20) : CallP (d + 1) 175 [.inr (some 171), .inl dv] im Q ↔ Q (some (.inl (buM (im 172) dv))) im := by
  by_cases c : im 172 (23 * dv + 2) < 0
  · simp (disch := omega) only [en_175, wp_ireturn rk_175, pg_175_0, pg_175_14, pg_175_20, cw_142, wp_iload, wp_aload, wp_istore, wp_astore, wp_iinc, wp_iconst, wp_dup, wp_dup2, wp_pop, wp_iadd, wp_isub, wp_imul, wp_idiv, wp_irem, wp_ineg, wp_iand, wp_ior, wp_ixor, wp_ishl, wp_ishr, wp_getI, wp_putI, wp_getR, wp_goto, wp_goto_w, wq_if_eq, wq_if_ne, wq_if_lt, wq_if_ge, wq_if_gt, wq_if_le, wq_icmp_eq, wq_icmp_ne, wq_icmp_lt, wq_icmp_ge, wq_icmp_gt, wq_icmp_le, wp_max, wp_min, kI_inl, kR_some, kN_inl, kO_some, KT_none, KT_some, List.length_cons, List.length_nil, Nat.reduceAdd, Nat.reduceLT, Nat.reduceLeDiff, Nat.reduceMod, Nat.reduceDiv, true_and, and_true, Int.reduceLE, Int.reduceNeg, Int.reduceLT, Int.cast_ofNat_Int, Nat.zero_le, zI, Int.reduceAdd, Int.reduceSub, Int.reduceMul, not_true_eq_false, not_false_eq_true, false_implies, true_implies, i01_0, i01_1, ite_not, ↓reduceIte, zget_0, zget_1, zget_2, zget_3, zget_4, zget_5, zget_6, zget_7, zget_8, zget_9, zget_10, zset_0, zset_1, zset_2, zset_3, zset_4, zset_5, zset_6, zset_7, zset_8, zset_9, zset_10, kd_171, rf_171_0, rf_171_1, rf_171_3, rf_171_4, rf_171_5, rf_171_6, rf_171_7, rf_171_8, rf_171_10, rf_171_13, rf_171_14, rf_171_15, rf_171_16, rf_171_17, rf_171_20, rf_171_21, rf_171_27, rf_171_28, rf_171_29, rf_171_30, rf_171_31, c_of, buM, c, show ¬ 0 ≤ im 172 (23 * dv + 2) by omega, if_true, if_false]
  · simp (disch := omega) only [en_175, wp_ireturn rk_175, pg_175_0, pg_175_14, pg_175_20, cw_142, wp_iload, wp_aload, wp_istore, wp_astore, wp_iinc, wp_iconst, wp_dup, wp_dup2, wp_pop, wp_iadd, wp_isub, wp_imul, wp_idiv, wp_irem, wp_ineg, wp_iand, wp_ior, wp_ixor, wp_ishl, wp_ishr, wp_getI, wp_putI, wp_getR, wp_goto, wp_goto_w, wq_if_eq, wq_if_ne, wq_if_lt, wq_if_ge, wq_if_gt, wq_if_le, wq_icmp_eq, wq_icmp_ne, wq_icmp_lt, wq_icmp_ge, wq_icmp_gt, wq_icmp_le, wp_max, wp_min, kI_inl, kR_some, kN_inl, kO_some, KT_none, KT_some, List.length_cons, List.length_nil, Nat.reduceAdd, Nat.reduceLT, Nat.reduceLeDiff, Nat.reduceMod, Nat.reduceDiv, true_and, and_true, Int.reduceLE, Int.reduceNeg, Int.reduceLT, Int.cast_ofNat_Int, Nat.zero_le, zI, Int.reduceAdd, Int.reduceSub, Int.reduceMul, not_true_eq_false, not_false_eq_true, false_implies, true_implies, i01_0, i01_1, ite_not, ↓reduceIte, zget_0, zget_1, zget_2, zget_3, zget_4, zget_5, zget_6, zget_7, zget_8, zget_9, zget_10, zset_0, zset_1, zset_2, zset_3, zset_4, zset_5, zset_6, zset_7, zset_8, zset_9, zset_10, kd_171, rf_171_0, rf_171_1, rf_171_3, rf_171_4, rf_171_5, rf_171_6, rf_171_7, rf_171_8, rf_171_10, rf_171_13, rf_171_14, rf_171_15, rf_171_16, rf_171_17, rf_171_20, rf_171_21, rf_171_27, rf_171_28, rf_171_29, rf_171_30, rf_171_31, c_of, buM, c, show 0 ≤ im 172 (23 * dv + 2) by omega, if_true, if_false]
/-- all rows within bounds -/
def MG (A : Int → Int) : Prop := ∀ e : Int, 0 ≤ e → e < 20 → (0 ≤ A (23 * e + 1) ∧ A (23 * e + 1) ≤ 1) ∧ (-1 ≤ A (23 * e + 2) ∧ A (23 * e + 2) ≤ 19) ∧ (0 ≤ A (23 * e + 3) ∧ A (23 * e + 3) ≤ 7) ∧ (0 ≤ A (23 * e + 4) ∧ A (23 * e + 4) ≤ 1) ∧ (0 ≤ A (23 * e + 5) ∧ A (23 * e + 5) ≤ 3) ∧ (∀ a : Int, 0 ≤ a → a < 3 → (0 ≤ A (23 * e + (6 + a)) ∧ A (23 * e + (6 + a)) ≤ 1) ∧ (0 ≤ A (23 * e + (9 + a)) ∧ A (23 * e + (9 + a)) ≤ 256) ∧ (-1 ≤ A (23 * e + (12 + a)) ∧ A (23 * e + (12 + a)) ≤ 1024)) ∧ (0 ≤ A (23 * e + 15) ∧ A (23 * e + 15) ≤ 3) ∧ (0 ≤ A (23 * e + 16) ∧ A (23 * e + 16) ≤ 128) ∧ (-1 ≤ A (23 * e + 17) ∧ A (23 * e + 17) ≤ 31) ∧ (-1 ≤ A (23 * e + 18) ∧ A (23 * e + 18) ≤ 31) ∧ (∀ k : Int, 0 ≤ k → k < 2 → (-1 ≤ A (23 * e + (19 + k)) ∧ A (23 * e + (19 + k)) ≤ 1024) ∧ (0 ≤ A (23 * e + (21 + k)) ∧ A (23 * e + (21 + k)) ≤ 1024))
theorem MG_many {A : Int → Int} (h : MG A) (hd : 0 ≤ dv ∧ dv < 20) : 0 ≤ A (23 * dv + 5) ∧ A (23 * dv + 5) ≤ 3 := (h dv hd.1 hd.2).2.2.2.2.1
theorem MG_ap {A : Int → Int} (h : MG A) (hd : 0 ≤ dv ∧ dv < 20) (ha : 0 ≤ a ∧ a < 3) : (0 ≤ A (23 * dv + (6 + a)) ∧ A (23 * dv + (6 + a)) ≤ 1) ∧ (0 ≤ A (23 * dv + (9 + a)) ∧ A (23 * dv + (9 + a)) ≤ 256) ∧ (-1 ≤ A (23 * dv + (12 + a)) ∧ A (23 * dv + (12 + a)) ≤ 1024) := (h dv hd.1 hd.2).2.2.2.2.2.1 a ha.1 ha.2
theorem MG_at {A : Int → Int} (h : MG A) (hd : 0 ≤ dv ∧ dv < 20) : -1 ≤ A (23 * dv + 2) ∧ A (23 * dv + 2) ≤ 19 := (h dv hd.1 hd.2).2.1
theorem MG_win {A : Int → Int} (h : MG A) (hd : 0 ≤ dv ∧ dv < 20) (hk : 0 ≤ k ∧ k < 2) : (-1 ≤ A (23 * dv + (19 + k)) ∧ A (23 * dv + (19 + k)) ≤ 1024) ∧ (0 ≤ A (23 * dv + (21 + k)) ∧ A (23 * dv + (21 + k)) ≤ 1024) := (h dv hd.1 hd.2).2.2.2.2.2.2.2.2.2.2 k hk.1 hk.2
theorem buM_bd {A : Int → Int} (h : MG A) (hd : 0 ≤ dv ∧ dv < 20) : 0 ≤ buM A dv ∧ buM A dv ≤ 20 := by
  have := MG_at h hd
  unfold buM
  split <;> omega
def usM (A : Int → Int) (dv kd : Int) (a s : Int) : Int := if A (23 * dv + (6 + a)) = kd then s + A (23 * dv + (9 + a)) else s
def unM (A : Int → Int) (dv kd : Int) : Int := lp (usM A dv kd) (A (23 * dv + 5)).toNat 0 0
theorem l_un (hg : MG (im 172)) (hd : 0 ≤ dv ∧ dv < 20) : ∀ (n : Nat) (a s : Int), 0 ≤ a → a + n = ((im 172 (23 * dv + 5)).toNat : Nat) → 0 ≤ s ∧ s ≤ 256 * a → ∀ Q, wp none (d + 1) 184 (zpg 184 5) [.inr (some 171), .inl dv, .inl kd, .inl s, .inl a] [] im Q ↔ Q (some (.inl (lp (usM (im 172) dv kd) n a s))) im
  | 0, a, s, h0, h1, hs, Q => by
    have hm := MG_many hg hd
    rw [pg_184_5]
    simp (disch := omega) only [wp_ireturn rk_184, pg_184_44, pg_184_45, pg_184_53, cw_142, wp_iload, wp_aload, wp_istore, wp_astore, wp_iinc, wp_iconst, wp_dup, wp_dup2, wp_pop, wp_iadd, wp_isub, wp_imul, wp_idiv, wp_irem, wp_ineg, wp_iand, wp_ior, wp_ixor, wp_ishl, wp_ishr, wp_getI, wp_putI, wp_getR, wp_goto, wp_goto_w, wq_if_eq, wq_if_ne, wq_if_lt, wq_if_ge, wq_if_gt, wq_if_le, wq_icmp_eq, wq_icmp_ne, wq_icmp_lt, wq_icmp_ge, wq_icmp_gt, wq_icmp_le, wp_max, wp_min, kI_inl, kR_some, kN_inl, kO_some, KT_none, KT_some, List.length_cons, List.length_nil, Nat.reduceAdd, Nat.reduceLT, Nat.reduceLeDiff, Nat.reduceMod, Nat.reduceDiv, true_and, and_true, Int.reduceLE, Int.reduceNeg, Int.reduceLT, Int.cast_ofNat_Int, Nat.zero_le, zI, Int.reduceAdd, Int.reduceSub, Int.reduceMul, not_true_eq_false, not_false_eq_true, false_implies, true_implies, i01_0, i01_1, ite_not, ↓reduceIte, zget_0, zget_1, zget_2, zget_3, zget_4, zget_5, zget_6, zget_7, zget_8, zget_9, zget_10, zset_0, zset_1, zset_2, zset_3, zset_4, zset_5, zset_6, zset_7, zset_8, zset_9, zset_10, kd_171, rf_171_0, rf_171_1, rf_171_3, rf_171_4, rf_171_5, rf_171_6, rf_171_7, rf_171_8, rf_171_10, rf_171_13, rf_171_14, rf_171_15, rf_171_16, rf_171_17, rf_171_20, rf_171_21, rf_171_27, rf_171_28, rf_171_29, rf_171_30, rf_171_31, c_of, show im 172 (23 * dv + 5) ≤ a by omega, if_true, lp]
  | n + 1, a, s, h0, h1, hs, Q => by
    have hm := MG_many hg hd
    have hap := MG_ap hg hd (a := a) (by omega)
    have ih := l_un hg hd n (a + 1)
    rw [pg_184_5]
    by_cases c : im 172 (23 * dv + (6 + a)) = kd
    · simp (disch := omega) only [wp_ireturn rk_184, pg_184_44, pg_184_45, pg_184_53, cw_142, wp_iload, wp_aload, wp_istore, wp_astore, wp_iinc, wp_iconst, wp_dup, wp_dup2, wp_pop, wp_iadd, wp_isub, wp_imul, wp_idiv, wp_irem, wp_ineg, wp_iand, wp_ior, wp_ixor, wp_ishl, wp_ishr, wp_getI, wp_putI, wp_getR, wp_goto, wp_goto_w, wq_if_eq, wq_if_ne, wq_if_lt, wq_if_ge, wq_if_gt, wq_if_le, wq_icmp_eq, wq_icmp_ne, wq_icmp_lt, wq_icmp_ge, wq_icmp_gt, wq_icmp_le, wp_max, wp_min, kI_inl, kR_some, kN_inl, kO_some, KT_none, KT_some, List.length_cons, List.length_nil, Nat.reduceAdd, Nat.reduceLT, Nat.reduceLeDiff, Nat.reduceMod, Nat.reduceDiv, true_and, and_true, Int.reduceLE, Int.reduceNeg, Int.reduceLT, Int.cast_ofNat_Int, Nat.zero_le, zI, Int.reduceAdd, Int.reduceSub, Int.reduceMul, not_true_eq_false, not_false_eq_true, false_implies, true_implies, i01_0, i01_1, ite_not, ↓reduceIte, zget_0, zget_1, zget_2, zget_3, zget_4, zget_5, zget_6, zget_7, zget_8, zget_9, zget_10, zset_0, zset_1, zset_2, zset_3, zset_4, zset_5, zset_6, zset_7, zset_8, zset_9, zset_10, kd_171, rf_171_0, rf_171_1, rf_171_3, rf_171_4, rf_171_5, rf_171_6, rf_171_7, rf_171_8, rf_171_10, rf_171_13, rf_171_14, rf_171_15, rf_171_16, rf_171_17, rf_171_20, rf_171_21, rf_171_27, rf_171_28, rf_171_29, rf_171_30, rf_171_31, c_of, show ¬ im 172 (23 * dv + 5) ≤ a by omega, if_false, c, if_true, ih, lp, usM, not_true_eq_false]
      try (repeat (refine (and_iff_right (by omega)).trans ?_))
      try exact Iff.rfl
    · simp (disch := omega) only [wp_ireturn rk_184, pg_184_44, pg_184_45, pg_184_53, cw_142, wp_iload, wp_aload, wp_istore, wp_astore, wp_iinc, wp_iconst, wp_dup, wp_dup2, wp_pop, wp_iadd, wp_isub, wp_imul, wp_idiv, wp_irem, wp_ineg, wp_iand, wp_ior, wp_ixor, wp_ishl, wp_ishr, wp_getI, wp_putI, wp_getR, wp_goto, wp_goto_w, wq_if_eq, wq_if_ne, wq_if_lt, wq_if_ge, wq_if_gt, wq_if_le, wq_icmp_eq, wq_icmp_ne, wq_icmp_lt, wq_icmp_ge, wq_icmp_gt, wq_icmp_le, wp_max, wp_min, kI_inl, kR_some, kN_inl, kO_some, KT_none, KT_some, List.length_cons, List.length_nil, Nat.reduceAdd, Nat.reduceLT, Nat.reduceLeDiff, Nat.reduceMod, Nat.reduceDiv, true_and, and_true, Int.reduceLE, Int.reduceNeg, Int.reduceLT, Int.cast_ofNat_Int, Nat.zero_le, zI, Int.reduceAdd, Int.reduceSub, Int.reduceMul, not_true_eq_false, not_false_eq_true, false_implies, true_implies, i01_0, i01_1, ite_not, ↓reduceIte, zget_0, zget_1, zget_2, zget_3, zget_4, zget_5, zget_6, zget_7, zget_8, zget_9, zget_10, zset_0, zset_1, zset_2, zset_3, zset_4, zset_5, zset_6, zset_7, zset_8, zset_9, zset_10, kd_171, rf_171_0, rf_171_1, rf_171_3, rf_171_4, rf_171_5, rf_171_6, rf_171_7, rf_171_8, rf_171_10, rf_171_13, rf_171_14, rf_171_15, rf_171_16, rf_171_17, rf_171_20, rf_171_21, rf_171_27, rf_171_28, rf_171_29, rf_171_30, rf_171_31, c_of, show ¬ im 172 (23 * dv + 5) ≤ a by omega, if_false, c, if_true, ih, lp, usM, not_false_eq_true, Int.add_zero]
      try (repeat (refine (and_iff_right (by omega)).trans ?_))
      try exact Iff.rfl
theorem c_unM (hg : MG (im 172)) (hd : 0 ≤ dv ∧ dv < 20) : CallP (d + 1) 184 [.inr (some 171), .inl dv, .inl kd] im Q ↔ Q (some (.inl (unM (im 172) dv kd))) im := by
  have hm := MG_many hg hd
  have hl := l_un (d := d) (im := im) (kd := kd) hg hd (im 172 (23 * dv + 5)).toNat 0 0 (by omega) (by omega) (by omega) Q
  simp (disch := omega) only [en_184, pg_184_0, wp_iload, wp_aload, wp_istore, wp_astore, wp_iinc, wp_iconst, wp_dup, wp_dup2, wp_pop, wp_iadd, wp_isub, wp_imul, wp_idiv, wp_irem, wp_ineg, wp_iand, wp_ior, wp_ixor, wp_ishl, wp_ishr, wp_getI, wp_putI, wp_getR, wp_goto, wp_goto_w, wq_if_eq, wq_if_ne, wq_if_lt, wq_if_ge, wq_if_gt, wq_if_le, wq_icmp_eq, wq_icmp_ne, wq_icmp_lt, wq_icmp_ge, wq_icmp_gt, wq_icmp_le, wp_max, wp_min, kI_inl, kR_some, kN_inl, kO_some, KT_none, KT_some, List.length_cons, List.length_nil, Nat.reduceAdd, Nat.reduceLT, Nat.reduceLeDiff, Nat.reduceMod, Nat.reduceDiv, true_and, and_true, Int.reduceLE, Int.reduceNeg, Int.reduceLT, Int.cast_ofNat_Int, Nat.zero_le, zI, Int.reduceAdd, Int.reduceSub, Int.reduceMul, not_true_eq_false, not_false_eq_true, false_implies, true_implies, i01_0, i01_1, ite_not, ↓reduceIte, zget_0, zget_1, zget_2, zget_3, zget_4, zget_5, zget_6, zget_7, zget_8, zget_9, zget_10, zset_0, zset_1, zset_2, zset_3, zset_4, zset_5, zset_6, zset_7, zset_8, zset_9, zset_10]
  exact hl
theorem unM_bd {A : Int → Int} (hg : MG A) (hd : 0 ≤ dv ∧ dv < 20) : 0 ≤ unM A dv kd ∧ unM A dv kd ≤ 768 := by
  have hm := MG_many hg hd
  have h2 : ∀ (n : Nat) (i s : Int), 0 ≤ i → i + n ≤ 3 → s ≤ lp (usM A dv kd) n i s ∧ lp (usM A dv kd) n i s ≤ s + n * 256 := by
    intro n
    induction n with
    | zero => intro i s _ _; simp only [lp]; omega
    | succ n ih =>
      intro i s h0 h1
      have hap := MG_ap hg hd (a := i) (by omega)
      have := ih (i + 1) (usM A dv kd i s) (by omega) (by omega)
      have e2 : usM A dv kd i s = s + A (23 * dv + (9 + i)) ∨ usM A dv kd i s = s := by
        unfold usM
        split
        · exact Or.inl rfl
        · exact Or.inr rfl
      simp only [lp]
      omega
  have := h2 (A (23 * dv + 5)).toNat 0 0 (by omega) (by omega)
  unfold unM
  omega
def rupM (v s : Int) : Int := (v + s - 1) / s * s
theorem rupM_bd {s : Int} (hv : 0 ≤ v) (hs : 1 ≤ s) : v ≤ rupM v s ∧ rupM v s ≤ v + s - 1 := by
  unfold rupM
  have h1 := Int.ediv_mul_le (v + s - 1) (show s ≠ 0 by omega)
  have h2 := Int.lt_ediv_add_one_mul_self (v + s - 1) (show 0 < s by omega)
  rw [Int.add_mul, Int.one_mul] at h2
  omega
theorem c_roundUpM {s : Int} (hv : 0 ≤ v ∧ v ≤ 1000000000) (hs : 1 ≤ s ∧ s ≤ 1000000) : CallP d 178 [.inl v, .inl s] im Q ↔ Q (some (.inl (rupM v s))) im := by
  have hb := rupM_bd (v := v) (s := s) hv.1 hs.1
  have e1 : (v + s - 1).tdiv s = (v + s - 1) / s := Int.tdiv_eq_ediv_of_nonneg (by omega)
  have e2 : (v + s - 1).tmod s = (v + s - 1) % s := Int.tmod_eq_emod_of_nonneg (by omega)
  have e3 := Int.emod_nonneg (v + s - 1) (show s ≠ 0 by omega)
  have e4 := Int.emod_lt_of_pos (v + s - 1) (show 0 < s by omega)
  have e5 : 0 ≤ (v + s - 1) / s := Int.ediv_nonneg (by omega) (by omega)
  have e6 : (v + s - 1) / s ≤ v + s - 1 := Int.ediv_le_self _ (by omega)
  have e7 : (v + s - 1) / s * s = rupM v s := rfl
  simp (disch := omega) only [en_178, wp_ireturn rk_178, pg_178_0, wp_iload, wp_aload, wp_istore, wp_astore, wp_iinc, wp_iconst, wp_dup, wp_dup2, wp_pop, wp_iadd, wp_isub, wp_imul, wp_idiv, wp_irem, wp_ineg, wp_iand, wp_ior, wp_ixor, wp_ishl, wp_ishr, wp_getI, wp_putI, wp_getR, wp_goto, wp_goto_w, wq_if_eq, wq_if_ne, wq_if_lt, wq_if_ge, wq_if_gt, wq_if_le, wq_icmp_eq, wq_icmp_ne, wq_icmp_lt, wq_icmp_ge, wq_icmp_gt, wq_icmp_le, wp_max, wp_min, kI_inl, kR_some, kN_inl, kO_some, KT_none, KT_some, List.length_cons, List.length_nil, Nat.reduceAdd, Nat.reduceLT, Nat.reduceLeDiff, Nat.reduceMod, Nat.reduceDiv, true_and, and_true, Int.reduceLE, Int.reduceNeg, Int.reduceLT, Int.cast_ofNat_Int, Nat.zero_le, zI, Int.reduceAdd, Int.reduceSub, Int.reduceMul, not_true_eq_false, not_false_eq_true, false_implies, true_implies, i01_0, i01_1, ite_not, ↓reduceIte, zget_0, zget_1, zget_2, zget_3, zget_4, zget_5, zget_6, zget_7, zget_8, zget_9, zget_10, zset_0, zset_1, zset_2, zset_3, zset_4, zset_5, zset_6, zset_7, zset_8, zset_9, zset_10, e1, e2, e7]
  try (repeat (refine (and_iff_right (by omega)).trans ?_))
  try exact Iff.rfl
def beM (A : Int → Int) (bu k : Int) : Int := if bu = 20 then 0 else A (23 * bu + (19 + k))
def wiM (A : Int → Int) (bu k : Int) : Int := if bu = 20 then A (460 + k) else A (23 * bu + (21 + k))
theorem c_beginOf (hb : 0 ≤ bu ∧ bu ≤ 20) (hk : 0 ≤ k ∧ k < 2) : CallP (d + 1) 191 [.inr (some 171), .inl bu, .inl k] im Q ↔ Q (some (.inl (beM (im 172) bu k))) im := by
  by_cases c : bu = 20
  · simp (disch := omega) only [en_191, wp_ireturn rk_191, pg_191_0, pg_191_10, pg_191_19, cw_142, wp_iload, wp_aload, wp_istore, wp_astore, wp_iinc, wp_iconst, wp_dup, wp_dup2, wp_pop, wp_iadd, wp_isub, wp_imul, wp_idiv, wp_irem, wp_ineg, wp_iand, wp_ior, wp_ixor, wp_ishl, wp_ishr, wp_getI, wp_putI, wp_getR, wp_goto, wp_goto_w, wq_if_eq, wq_if_ne, wq_if_lt, wq_if_ge, wq_if_gt, wq_if_le, wq_icmp_eq, wq_icmp_ne, wq_icmp_lt, wq_icmp_ge, wq_icmp_gt, wq_icmp_le, wp_max, wp_min, kI_inl, kR_some, kN_inl, kO_some, KT_none, KT_some, List.length_cons, List.length_nil, Nat.reduceAdd, Nat.reduceLT, Nat.reduceLeDiff, Nat.reduceMod, Nat.reduceDiv, true_and, and_true, Int.reduceLE, Int.reduceNeg, Int.reduceLT, Int.cast_ofNat_Int, Nat.zero_le, zI, Int.reduceAdd, Int.reduceSub, Int.reduceMul, not_true_eq_false, not_false_eq_true, false_implies, true_implies, i01_0, i01_1, ite_not, ↓reduceIte, zget_0, zget_1, zget_2, zget_3, zget_4, zget_5, zget_6, zget_7, zget_8, zget_9, zget_10, zset_0, zset_1, zset_2, zset_3, zset_4, zset_5, zset_6, zset_7, zset_8, zset_9, zset_10, kd_171, rf_171_0, rf_171_1, rf_171_3, rf_171_4, rf_171_5, rf_171_6, rf_171_7, rf_171_8, rf_171_10, rf_171_13, rf_171_14, rf_171_15, rf_171_16, rf_171_17, rf_171_20, rf_171_21, rf_171_27, rf_171_28, rf_171_29, rf_171_30, rf_171_31, beM, c, not_true_eq_false, if_false, if_true]
  · simp (disch := omega) only [en_191, wp_ireturn rk_191, pg_191_0, pg_191_10, pg_191_19, cw_142, wp_iload, wp_aload, wp_istore, wp_astore, wp_iinc, wp_iconst, wp_dup, wp_dup2, wp_pop, wp_iadd, wp_isub, wp_imul, wp_idiv, wp_irem, wp_ineg, wp_iand, wp_ior, wp_ixor, wp_ishl, wp_ishr, wp_getI, wp_putI, wp_getR, wp_goto, wp_goto_w, wq_if_eq, wq_if_ne, wq_if_lt, wq_if_ge, wq_if_gt, wq_if_le, wq_icmp_eq, wq_icmp_ne, wq_icmp_lt, wq_icmp_ge, wq_icmp_gt, wq_icmp_le, wp_max, wp_min, kI_inl, kR_some, kN_inl, kO_some, KT_none, KT_some, List.length_cons, List.length_nil, Nat.reduceAdd, Nat.reduceLT, Nat.reduceLeDiff, Nat.reduceMod, Nat.reduceDiv, true_and, and_true, Int.reduceLE, Int.reduceNeg, Int.reduceLT, Int.cast_ofNat_Int, Nat.zero_le, zI, Int.reduceAdd, Int.reduceSub, Int.reduceMul, not_true_eq_false, not_false_eq_true, false_implies, true_implies, i01_0, i01_1, ite_not, ↓reduceIte, zget_0, zget_1, zget_2, zget_3, zget_4, zget_5, zget_6, zget_7, zget_8, zget_9, zget_10, zset_0, zset_1, zset_2, zset_3, zset_4, zset_5, zset_6, zset_7, zset_8, zset_9, zset_10, kd_171, rf_171_0, rf_171_1, rf_171_3, rf_171_4, rf_171_5, rf_171_6, rf_171_7, rf_171_8, rf_171_10, rf_171_13, rf_171_14, rf_171_15, rf_171_16, rf_171_17, rf_171_20, rf_171_21, rf_171_27, rf_171_28, rf_171_29, rf_171_30, rf_171_31, c_of, beM, c, not_false_eq_true, if_false, if_true]
    try (repeat (refine (and_iff_right (by omega)).trans ?_))
    try exact Iff.rfl
theorem c_wideOf (hb : 0 ≤ bu ∧ bu ≤ 20) (hk : 0 ≤ k ∧ k < 2) : CallP (d + 1) 192 [.inr (some 171), .inl bu, .inl k] im Q ↔ Q (some (.inl (wiM (im 172) bu k))) im := by
  by_cases c : bu = 20
  · simp (disch := omega) only [en_192, wp_ireturn rk_192, pg_192_0, pg_192_19, pg_192_28, cw_142, wp_iload, wp_aload, wp_istore, wp_astore, wp_iinc, wp_iconst, wp_dup, wp_dup2, wp_pop, wp_iadd, wp_isub, wp_imul, wp_idiv, wp_irem, wp_ineg, wp_iand, wp_ior, wp_ixor, wp_ishl, wp_ishr, wp_getI, wp_putI, wp_getR, wp_goto, wp_goto_w, wq_if_eq, wq_if_ne, wq_if_lt, wq_if_ge, wq_if_gt, wq_if_le, wq_icmp_eq, wq_icmp_ne, wq_icmp_lt, wq_icmp_ge, wq_icmp_gt, wq_icmp_le, wp_max, wp_min, kI_inl, kR_some, kN_inl, kO_some, KT_none, KT_some, List.length_cons, List.length_nil, Nat.reduceAdd, Nat.reduceLT, Nat.reduceLeDiff, Nat.reduceMod, Nat.reduceDiv, true_and, and_true, Int.reduceLE, Int.reduceNeg, Int.reduceLT, Int.cast_ofNat_Int, Nat.zero_le, zI, Int.reduceAdd, Int.reduceSub, Int.reduceMul, not_true_eq_false, not_false_eq_true, false_implies, true_implies, i01_0, i01_1, ite_not, ↓reduceIte, zget_0, zget_1, zget_2, zget_3, zget_4, zget_5, zget_6, zget_7, zget_8, zget_9, zget_10, zset_0, zset_1, zset_2, zset_3, zset_4, zset_5, zset_6, zset_7, zset_8, zset_9, zset_10, kd_171, rf_171_0, rf_171_1, rf_171_3, rf_171_4, rf_171_5, rf_171_6, rf_171_7, rf_171_8, rf_171_10, rf_171_13, rf_171_14, rf_171_15, rf_171_16, rf_171_17, rf_171_20, rf_171_21, rf_171_27, rf_171_28, rf_171_29, rf_171_30, rf_171_31, wp_iaload kd_172, wiM, c, not_true_eq_false, if_false, if_true]
    try (repeat (refine (and_iff_right (by omega)).trans ?_))
    try exact Iff.rfl
  · simp (disch := omega) only [en_192, wp_ireturn rk_192, pg_192_0, pg_192_19, pg_192_28, cw_142, wp_iload, wp_aload, wp_istore, wp_astore, wp_iinc, wp_iconst, wp_dup, wp_dup2, wp_pop, wp_iadd, wp_isub, wp_imul, wp_idiv, wp_irem, wp_ineg, wp_iand, wp_ior, wp_ixor, wp_ishl, wp_ishr, wp_getI, wp_putI, wp_getR, wp_goto, wp_goto_w, wq_if_eq, wq_if_ne, wq_if_lt, wq_if_ge, wq_if_gt, wq_if_le, wq_icmp_eq, wq_icmp_ne, wq_icmp_lt, wq_icmp_ge, wq_icmp_gt, wq_icmp_le, wp_max, wp_min, kI_inl, kR_some, kN_inl, kO_some, KT_none, KT_some, List.length_cons, List.length_nil, Nat.reduceAdd, Nat.reduceLT, Nat.reduceLeDiff, Nat.reduceMod, Nat.reduceDiv, true_and, and_true, Int.reduceLE, Int.reduceNeg, Int.reduceLT, Int.cast_ofNat_Int, Nat.zero_le, zI, Int.reduceAdd, Int.reduceSub, Int.reduceMul, not_true_eq_false, not_false_eq_true, false_implies, true_implies, i01_0, i01_1, ite_not, ↓reduceIte, zget_0, zget_1, zget_2, zget_3, zget_4, zget_5, zget_6, zget_7, zget_8, zget_9, zget_10, zset_0, zset_1, zset_2, zset_3, zset_4, zset_5, zset_6, zset_7, zset_8, zset_9, zset_10, kd_171, rf_171_0, rf_171_1, rf_171_3, rf_171_4, rf_171_5, rf_171_6, rf_171_7, rf_171_8, rf_171_10, rf_171_13, rf_171_14, rf_171_15, rf_171_16, rf_171_17, rf_171_20, rf_171_21, rf_171_27, rf_171_28, rf_171_29, rf_171_30, rf_171_31, c_of, wiM, c, not_false_eq_true, if_false, if_true]
    try (repeat (refine (and_iff_right (by omega)).trans ?_))
    try exact Iff.rfl
abbrev buOn (A : Int → Int) (bu : Int) : Prop := bu = 20 ∨ (onM A bu ∧ A (23 * bu + 1) = 1)
theorem c_isBusOnM : CallP (d + 3) 193 [.inr (some 171), .inl bu] im Q ↔ Q (some (.inl (if buOn (im 172) bu then 1 else 0))) im := by
  by_cases c : bu = 20
  · rw [if_pos (show buOn (im 172) bu from Or.inl c)]
    simp (disch := omega) only [en_193, wp_zreturn rk_193, pg_193_0, pg_193_24, pg_193_28, pg_193_29, cw_142, cw_147, wp_iload, wp_aload, wp_istore, wp_astore, wp_iinc, wp_iconst, wp_dup, wp_dup2, wp_pop, wp_iadd, wp_isub, wp_imul, wp_idiv, wp_irem, wp_ineg, wp_iand, wp_ior, wp_ixor, wp_ishl, wp_ishr, wp_getI, wp_putI, wp_getR, wp_goto, wp_goto_w, wq_if_eq, wq_if_ne, wq_if_lt, wq_if_ge, wq_if_gt, wq_if_le, wq_icmp_eq, wq_icmp_ne, wq_icmp_lt, wq_icmp_ge, wq_icmp_gt, wq_icmp_le, wp_max, wp_min, kI_inl, kR_some, kN_inl, kO_some, KT_none, KT_some, List.length_cons, List.length_nil, Nat.reduceAdd, Nat.reduceLT, Nat.reduceLeDiff, Nat.reduceMod, Nat.reduceDiv, true_and, and_true, Int.reduceLE, Int.reduceNeg, Int.reduceLT, Int.cast_ofNat_Int, Nat.zero_le, zI, Int.reduceAdd, Int.reduceSub, Int.reduceMul, not_true_eq_false, not_false_eq_true, false_implies, true_implies, i01_0, i01_1, ite_not, ↓reduceIte, zget_0, zget_1, zget_2, zget_3, zget_4, zget_5, zget_6, zget_7, zget_8, zget_9, zget_10, zset_0, zset_1, zset_2, zset_3, zset_4, zset_5, zset_6, zset_7, zset_8, zset_9, zset_10, kd_171, rf_171_0, rf_171_1, rf_171_3, rf_171_4, rf_171_5, rf_171_6, rf_171_7, rf_171_8, rf_171_10, rf_171_13, rf_171_14, rf_171_15, rf_171_16, rf_171_17, rf_171_20, rf_171_21, rf_171_27, rf_171_28, rf_171_29, rf_171_30, rf_171_31, c, if_true, or_true, true_and]
  · by_cases c2 : onM (im 172) bu
    · have hd : 0 ≤ bu ∧ bu < 20 := ⟨c2.1.1, by have := c2.1.2.1; omega⟩
      by_cases c3 : im 172 (23 * bu + 1) = 1
      · rw [if_pos (show buOn (im 172) bu from Or.inr ⟨c2, c3⟩)]
        simp (disch := omega) only [en_193, wp_zreturn rk_193, pg_193_0, pg_193_24, pg_193_28, pg_193_29, cw_142, cw_147, wp_iload, wp_aload, wp_istore, wp_astore, wp_iinc, wp_iconst, wp_dup, wp_dup2, wp_pop, wp_iadd, wp_isub, wp_imul, wp_idiv, wp_irem, wp_ineg, wp_iand, wp_ior, wp_ixor, wp_ishl, wp_ishr, wp_getI, wp_putI, wp_getR, wp_goto, wp_goto_w, wq_if_eq, wq_if_ne, wq_if_lt, wq_if_ge, wq_if_gt, wq_if_le, wq_icmp_eq, wq_icmp_ne, wq_icmp_lt, wq_icmp_ge, wq_icmp_gt, wq_icmp_le, wp_max, wp_min, kI_inl, kR_some, kN_inl, kO_some, KT_none, KT_some, List.length_cons, List.length_nil, Nat.reduceAdd, Nat.reduceLT, Nat.reduceLeDiff, Nat.reduceMod, Nat.reduceDiv, true_and, and_true, Int.reduceLE, Int.reduceNeg, Int.reduceLT, Int.cast_ofNat_Int, Nat.zero_le, zI, Int.reduceAdd, Int.reduceSub, Int.reduceMul, not_true_eq_false, not_false_eq_true, false_implies, true_implies, i01_0, i01_1, ite_not, ↓reduceIte, zget_0, zget_1, zget_2, zget_3, zget_4, zget_5, zget_6, zget_7, zget_8, zget_9, zget_10, zset_0, zset_1, zset_2, zset_3, zset_4, zset_5, zset_6, zset_7, zset_8, zset_9, zset_10, kd_171, rf_171_0, rf_171_1, rf_171_3, rf_171_4, rf_171_5, rf_171_6, rf_171_7, rf_171_8, rf_171_10, rf_171_13, rf_171_14, rf_171_15, rf_171_16, rf_171_17, rf_171_20, rf_171_21, rf_171_27, rf_171_28, rf_171_29, rf_171_30, rf_171_31, c, if_false, c_onM, if_pos c2, c_of, c3, if_true]
        try simp only [show ¬ (1 : Int) = 0 by omega, if_false, or_true, true_and]
      · rw [if_neg (show ¬ buOn (im 172) bu from fun q => q.elim c (fun q => c3 q.2))]
        simp (disch := omega) only [en_193, wp_zreturn rk_193, pg_193_0, pg_193_24, pg_193_28, pg_193_29, cw_142, cw_147, wp_iload, wp_aload, wp_istore, wp_astore, wp_iinc, wp_iconst, wp_dup, wp_dup2, wp_pop, wp_iadd, wp_isub, wp_imul, wp_idiv, wp_irem, wp_ineg, wp_iand, wp_ior, wp_ixor, wp_ishl, wp_ishr, wp_getI, wp_putI, wp_getR, wp_goto, wp_goto_w, wq_if_eq, wq_if_ne, wq_if_lt, wq_if_ge, wq_if_gt, wq_if_le, wq_icmp_eq, wq_icmp_ne, wq_icmp_lt, wq_icmp_ge, wq_icmp_gt, wq_icmp_le, wp_max, wp_min, kI_inl, kR_some, kN_inl, kO_some, KT_none, KT_some, List.length_cons, List.length_nil, Nat.reduceAdd, Nat.reduceLT, Nat.reduceLeDiff, Nat.reduceMod, Nat.reduceDiv, true_and, and_true, Int.reduceLE, Int.reduceNeg, Int.reduceLT, Int.cast_ofNat_Int, Nat.zero_le, zI, Int.reduceAdd, Int.reduceSub, Int.reduceMul, not_true_eq_false, not_false_eq_true, false_implies, true_implies, i01_0, i01_1, ite_not, ↓reduceIte, zget_0, zget_1, zget_2, zget_3, zget_4, zget_5, zget_6, zget_7, zget_8, zget_9, zget_10, zset_0, zset_1, zset_2, zset_3, zset_4, zset_5, zset_6, zset_7, zset_8, zset_9, zset_10, kd_171, rf_171_0, rf_171_1, rf_171_3, rf_171_4, rf_171_5, rf_171_6, rf_171_7, rf_171_8, rf_171_10, rf_171_13, rf_171_14, rf_171_15, rf_171_16, rf_171_17, rf_171_20, rf_171_21, rf_171_27, rf_171_28, rf_171_29, rf_171_30, rf_171_31, c, if_false, c_onM, if_pos c2, c_of, c3, if_true]
        try simp only [show ¬ (1 : Int) = 0 by omega, if_false, true_or, true_and]
    · rw [if_neg (show ¬ buOn (im 172) bu from fun q => q.elim c (fun q => c2 q.1))]
      simp (disch := omega) only [en_193, wp_zreturn rk_193, pg_193_0, pg_193_24, pg_193_28, pg_193_29, cw_142, cw_147, wp_iload, wp_aload, wp_istore, wp_astore, wp_iinc, wp_iconst, wp_dup, wp_dup2, wp_pop, wp_iadd, wp_isub, wp_imul, wp_idiv, wp_irem, wp_ineg, wp_iand, wp_ior, wp_ixor, wp_ishl, wp_ishr, wp_getI, wp_putI, wp_getR, wp_goto, wp_goto_w, wq_if_eq, wq_if_ne, wq_if_lt, wq_if_ge, wq_if_gt, wq_if_le, wq_icmp_eq, wq_icmp_ne, wq_icmp_lt, wq_icmp_ge, wq_icmp_gt, wq_icmp_le, wp_max, wp_min, kI_inl, kR_some, kN_inl, kO_some, KT_none, KT_some, List.length_cons, List.length_nil, Nat.reduceAdd, Nat.reduceLT, Nat.reduceLeDiff, Nat.reduceMod, Nat.reduceDiv, true_and, and_true, Int.reduceLE, Int.reduceNeg, Int.reduceLT, Int.cast_ofNat_Int, Nat.zero_le, zI, Int.reduceAdd, Int.reduceSub, Int.reduceMul, not_true_eq_false, not_false_eq_true, false_implies, true_implies, i01_0, i01_1, ite_not, ↓reduceIte, zget_0, zget_1, zget_2, zget_3, zget_4, zget_5, zget_6, zget_7, zget_8, zget_9, zget_10, zset_0, zset_1, zset_2, zset_3, zset_4, zset_5, zset_6, zset_7, zset_8, zset_9, zset_10, kd_171, rf_171_0, rf_171_1, rf_171_3, rf_171_4, rf_171_5, rf_171_6, rf_171_7, rf_171_8, rf_171_10, rf_171_13, rf_171_14, rf_171_15, rf_171_16, rf_171_17, rf_171_20, rf_171_21, rf_171_27, rf_171_28, rf_171_29, rf_171_30, rf_171_31, c, if_false, c_onM, if_neg c2, if_true, true_or, true_and]
/-- units marked -/
def mkT (T : Int → Int) (fr sz y : Int) : Int → Int := fun u => if fr ≤ u ∧ u < fr + sz then T u + y else T u
def TkB (T : Int → Int) (m : Int) : Prop := ∀ u : Int, 0 ≤ u → u < 1024 → -m ≤ T u ∧ T u ≤ m
theorem TkB_mk {T : Int → Int} {m fr sz y : Int} (h : TkB T m) (hy : -1 ≤ y ∧ y ≤ 1) : TkB (mkT T fr sz y) (m + 1) := by
  intro u h0 h1
  have := h u h0 h1
  unfold mkT
  split <;> omega
theorem l_mark {fr sz y : Int} (hf : 0 ≤ fr) (hs : 0 ≤ sz ∧ fr + sz ≤ 1024) (hy : -1 ≤ y ∧ y ≤ 1) : ∀ (n : Nat) (u : Int) (X : zM), fr ≤ u → u + n = fr + sz → TkB (X 181) 1000 → (∀ j, u ≤ j → j < 1024 → -999 ≤ X 181 j ∧ X 181 j ≤ 999) → ∀ Q, wp none d 194 (zpg 194 3) [.inr (some 171), .inl fr, .inl sz, .inl y, .inl u] [] X Q ↔ Q none (setc X 181 (mkT (X 181) u (fr + sz - u) y))
  | 0, u, X, h0, h1, hb, hb2, Q => by
    have e0 : mkT (X 181) u (fr + sz - u) y = X 181 := by
      funext j
      unfold mkT
      rw [if_neg (by omega)]
    rw [pg_194_3, e0, setc_self]
    simp (disch := omega) only [wp_return rk_194, pg_194_28, wp_iload, wp_aload, wp_istore, wp_astore, wp_iinc, wp_iconst, wp_dup, wp_dup2, wp_pop, wp_iadd, wp_isub, wp_imul, wp_idiv, wp_irem, wp_ineg, wp_iand, wp_ior, wp_ixor, wp_ishl, wp_ishr, wp_getI, wp_putI, wp_getR, wp_goto, wp_goto_w, wq_if_eq, wq_if_ne, wq_if_lt, wq_if_ge, wq_if_gt, wq_if_le, wq_icmp_eq, wq_icmp_ne, wq_icmp_lt, wq_icmp_ge, wq_icmp_gt, wq_icmp_le, wp_max, wp_min, kI_inl, kR_some, kN_inl, kO_some, KT_none, KT_some, List.length_cons, List.length_nil, Nat.reduceAdd, Nat.reduceLT, Nat.reduceLeDiff, Nat.reduceMod, Nat.reduceDiv, true_and, and_true, Int.reduceLE, Int.reduceNeg, Int.reduceLT, Int.cast_ofNat_Int, Nat.zero_le, zI, Int.reduceAdd, Int.reduceSub, Int.reduceMul, not_true_eq_false, not_false_eq_true, false_implies, true_implies, i01_0, i01_1, ite_not, ↓reduceIte, zget_0, zget_1, zget_2, zget_3, zget_4, zget_5, zget_6, zget_7, zget_8, zget_9, zget_10, zset_0, zset_1, zset_2, zset_3, zset_4, zset_5, zset_6, zset_7, zset_8, zset_9, zset_10, kd_171, rf_171_0, rf_171_1, rf_171_3, rf_171_4, rf_171_5, rf_171_6, rf_171_7, rf_171_8, rf_171_10, rf_171_13, rf_171_14, rf_171_15, rf_171_16, rf_171_17, rf_171_20, rf_171_21, rf_171_27, rf_171_28, rf_171_29, rf_171_30, rf_171_31, show fr + sz ≤ u by omega, if_true]
    try (repeat (refine (and_iff_right (by omega)).trans ?_))
    try exact Iff.rfl
  | n + 1, u, X, h0, h1, hb, hb2, Q => by
    have hu := hb2 u (by omega) (by omega)
    have ih := l_mark hf hs hy n (u + 1) (setc X 181 (ups (X 181) u (X 181 u + y))) (by omega) (by omega) (by
      rw [setc_at]
      intro j q0 q1
      by_cases c : j = u
      · rw [c, ups_at]; omega
      · rw [ups_ne _ _ c]; exact hb j q0 q1) (by
      rw [setc_at]
      intro j q0 q1
      rw [ups_ne _ _ (by omega)]
      exact hb2 j (by omega) q1) Q
    have e0 : mkT (ups (X 181) u (X 181 u + y)) (u + 1) (fr + sz - (u + 1)) y = mkT (X 181) u (fr + sz - u) y := by
      funext j
      unfold mkT ups
      grind
    rw [setc_at, setc_setc, e0] at ih
    rw [pg_194_3]
    simp (disch := omega) only [wp_return rk_194, pg_194_28, wp_iload, wp_aload, wp_istore, wp_astore, wp_iinc, wp_iconst, wp_dup, wp_dup2, wp_pop, wp_iadd, wp_isub, wp_imul, wp_idiv, wp_irem, wp_ineg, wp_iand, wp_ior, wp_ixor, wp_ishl, wp_ishr, wp_getI, wp_putI, wp_getR, wp_goto, wp_goto_w, wq_if_eq, wq_if_ne, wq_if_lt, wq_if_ge, wq_if_gt, wq_if_le, wq_icmp_eq, wq_icmp_ne, wq_icmp_lt, wq_icmp_ge, wq_icmp_gt, wq_icmp_le, wp_max, wp_min, kI_inl, kR_some, kN_inl, kO_some, KT_none, KT_some, List.length_cons, List.length_nil, Nat.reduceAdd, Nat.reduceLT, Nat.reduceLeDiff, Nat.reduceMod, Nat.reduceDiv, true_and, and_true, Int.reduceLE, Int.reduceNeg, Int.reduceLT, Int.cast_ofNat_Int, Nat.zero_le, zI, Int.reduceAdd, Int.reduceSub, Int.reduceMul, not_true_eq_false, not_false_eq_true, false_implies, true_implies, i01_0, i01_1, ite_not, ↓reduceIte, zget_0, zget_1, zget_2, zget_3, zget_4, zget_5, zget_6, zget_7, zget_8, zget_9, zget_10, zset_0, zset_1, zset_2, zset_3, zset_4, zset_5, zset_6, zset_7, zset_8, zset_9, zset_10, kd_171, rf_171_0, rf_171_1, rf_171_3, rf_171_4, rf_171_5, rf_171_6, rf_171_7, rf_171_8, rf_171_10, rf_171_13, rf_171_14, rf_171_15, rf_171_16, rf_171_17, rf_171_20, rf_171_21, rf_171_27, rf_171_28, rf_171_29, rf_171_30, rf_171_31, wp_iaload kd_181, wp_iastore kd_181, zu_setc, show ¬ fr + sz ≤ u by omega, if_false]
    repeat (refine (and_iff_right (by omega)).trans ?_)
    exact ih
theorem c_mark {fr sz y m : Int} (hf : 0 ≤ fr) (hs : 0 ≤ sz ∧ fr + sz ≤ 1024) (hy : -1 ≤ y ∧ y ≤ 1) (hb : TkB (im 181) m) (hm : m ≤ 999) : CallP (d + 1) 194 [.inr (some 171), .inl fr, .inl sz, .inl y] im Q ↔ Q none (setc im 181 (mkT (im 181) fr sz y)) := by
  have hl := l_mark (d := d + 1) hf hs hy sz.toNat fr im (by omega) (by omega) (fun u h0 h1 => by have := hb u h0 h1; omega) (fun u h0 h1 => by have := hb u (by omega) h1; omega) Q
  rw [show fr + sz - fr = sz by omega] at hl
  simp (disch := omega) only [en_194, pg_194_0, wp_iload, wp_aload, wp_istore, wp_astore, wp_iinc, wp_iconst, wp_dup, wp_dup2, wp_pop, wp_iadd, wp_isub, wp_imul, wp_idiv, wp_irem, wp_ineg, wp_iand, wp_ior, wp_ixor, wp_ishl, wp_ishr, wp_getI, wp_putI, wp_getR, wp_goto, wp_goto_w, wq_if_eq, wq_if_ne, wq_if_lt, wq_if_ge, wq_if_gt, wq_if_le, wq_icmp_eq, wq_icmp_ne, wq_icmp_lt, wq_icmp_ge, wq_icmp_gt, wq_icmp_le, wp_max, wp_min, kI_inl, kR_some, kN_inl, kO_some, KT_none, KT_some, List.length_cons, List.length_nil, Nat.reduceAdd, Nat.reduceLT, Nat.reduceLeDiff, Nat.reduceMod, Nat.reduceDiv, true_and, and_true, Int.reduceLE, Int.reduceNeg, Int.reduceLT, Int.cast_ofNat_Int, Nat.zero_le, zI, Int.reduceAdd, Int.reduceSub, Int.reduceMul, not_true_eq_false, not_false_eq_true, false_implies, true_implies, i01_0, i01_1, ite_not, ↓reduceIte, zget_0, zget_1, zget_2, zget_3, zget_4, zget_5, zget_6, zget_7, zget_8, zget_9, zget_10, zset_0, zset_1, zset_2, zset_3, zset_4, zset_5, zset_6, zset_7, zset_8, zset_9, zset_10]
  exact hl
theorem l_tk0 {x1 x2 x4 : zV} : ∀ (n : Nat) (u : Int) (X : zM), 0 ≤ u → u + n = 1024 → ∀ Q, wp none (d + 3) 195 (zpg 195 2) [.inr (some 171), x1, x2, .inl u, x4] [] X Q ↔ wp none (d + 3) 195 (zpg 195 22) [.inr (some 171), x1, x2, .inl 1024, x4] [] (setc X 181 (fun j => if u ≤ j ∧ j < 1024 then 0 else X 181 j)) Q
  | 0, u, X, h0, h1, Q => by
    have e0 : (fun j => if u ≤ j ∧ j < 1024 then 0 else X 181 j) = X 181 := by
      funext j
      rw [if_neg (by omega)]
    conv => lhs; rw [pg_195_2]
    simp (disch := omega) only [wp_iload, wp_aload, wp_istore, wp_astore, wp_iinc, wp_iconst, wp_dup, wp_dup2, wp_pop, wp_iadd, wp_isub, wp_imul, wp_idiv, wp_irem, wp_ineg, wp_iand, wp_ior, wp_ixor, wp_ishl, wp_ishr, wp_getI, wp_putI, wp_getR, wp_goto, wp_goto_w, wq_if_eq, wq_if_ne, wq_if_lt, wq_if_ge, wq_if_gt, wq_if_le, wq_icmp_eq, wq_icmp_ne, wq_icmp_lt, wq_icmp_ge, wq_icmp_gt, wq_icmp_le, wp_max, wp_min, kI_inl, kR_some, kN_inl, kO_some, KT_none, KT_some, List.length_cons, List.length_nil, Nat.reduceAdd, Nat.reduceLT, Nat.reduceLeDiff, Nat.reduceMod, Nat.reduceDiv, true_and, and_true, Int.reduceLE, Int.reduceNeg, Int.reduceLT, Int.cast_ofNat_Int, Nat.zero_le, zI, Int.reduceAdd, Int.reduceSub, Int.reduceMul, not_true_eq_false, not_false_eq_true, false_implies, true_implies, i01_0, i01_1, ite_not, ↓reduceIte, zget_0, zget_1, zget_2, zget_3, zget_4, zget_5, zget_6, zget_7, zget_8, zget_9, zget_10, zset_0, zset_1, zset_2, zset_3, zset_4, zset_5, zset_6, zset_7, zset_8, zset_9, zset_10, show 1024 ≤ u by omega, if_true, e0, setc_self]
    rw [show u = 1024 by omega]
  | n + 1, u, X, h0, h1, Q => by
    have ih := l_tk0 (x1 := x1) (x2 := x2) (x4 := x4) n (u + 1) (setc X 181 (ups (X 181) u 0)) (by omega) (by omega) Q
    have e0 : (fun j => if u + 1 ≤ j ∧ j < 1024 then 0 else ups (X 181) u 0 j) = (fun j => if u ≤ j ∧ j < 1024 then 0 else X 181 j) := by
      funext j
      unfold ups
      grind
    rw [setc_at, setc_setc, e0] at ih
    rw [← ih]
    conv => lhs; rw [pg_195_2]
    simp (disch := omega) only [wp_iload, wp_aload, wp_istore, wp_astore, wp_iinc, wp_iconst, wp_dup, wp_dup2, wp_pop, wp_iadd, wp_isub, wp_imul, wp_idiv, wp_irem, wp_ineg, wp_iand, wp_ior, wp_ixor, wp_ishl, wp_ishr, wp_getI, wp_putI, wp_getR, wp_goto, wp_goto_w, wq_if_eq, wq_if_ne, wq_if_lt, wq_if_ge, wq_if_gt, wq_if_le, wq_icmp_eq, wq_icmp_ne, wq_icmp_lt, wq_icmp_ge, wq_icmp_gt, wq_icmp_le, wp_max, wp_min, kI_inl, kR_some, kN_inl, kO_some, KT_none, KT_some, List.length_cons, List.length_nil, Nat.reduceAdd, Nat.reduceLT, Nat.reduceLeDiff, Nat.reduceMod, Nat.reduceDiv, true_and, and_true, Int.reduceLE, Int.reduceNeg, Int.reduceLT, Int.cast_ofNat_Int, Nat.zero_le, zI, Int.reduceAdd, Int.reduceSub, Int.reduceMul, not_true_eq_false, not_false_eq_true, false_implies, true_implies, i01_0, i01_1, ite_not, ↓reduceIte, zget_0, zget_1, zget_2, zget_3, zget_4, zget_5, zget_6, zget_7, zget_8, zget_9, zget_10, zset_0, zset_1, zset_2, zset_3, zset_4, zset_5, zset_6, zset_7, zset_8, zset_9, zset_10, kd_171, rf_171_0, rf_171_1, rf_171_3, rf_171_4, rf_171_5, rf_171_6, rf_171_7, rf_171_8, rf_171_10, rf_171_13, rf_171_14, rf_171_15, rf_171_16, rf_171_17, rf_171_20, rf_171_21, rf_171_27, rf_171_28, rf_171_29, rf_171_30, rf_171_31, wp_iastore kd_181, zu_setc, show ¬ 1024 ≤ u by omega, if_false]
    try (repeat (refine (and_iff_right (by omega)).trans ?_))
    try exact Iff.rfl
def apT (A : Int → Int) (dv k : Int) (a : Int) (T : Int → Int) : Int → Int := if A (23 * dv + (6 + a)) = k then mkT T (A (23 * dv + (12 + a))) (A (23 * dv + (9 + a))) 1 else T
def dvT (A : Int → Int) (bu k : Int) (e : Int) (T : Int → Int) : Int → Int := if onM A e ∧ buM A e = bu then (if 0 < A (23 * e + (21 + k)) then mkT (lp (apT A e k) (A (23 * e + 5)).toNat 0 T) (A (23 * e + (19 + k))) (A (23 * e + (21 + k))) 1 else lp (apT A e k) (A (23 * e + 5)).toNat 0 T) else T
/-- what is on lies within the units -/
def TkP (A : Int → Int) (bu k : Int) : Prop := ∀ e : Int, onM A e → buM A e = bu → (∀ a, 0 ≤ a → a < A (23 * e + 5) → A (23 * e + (6 + a)) = k → 0 ≤ A (23 * e + (12 + a)) ∧ A (23 * e + (12 + a)) + A (23 * e + (9 + a)) ≤ 1024) ∧ (0 < A (23 * e + (21 + k)) → 0 ≤ A (23 * e + (19 + k)) ∧ A (23 * e + (19 + k)) + A (23 * e + (21 + k)) ≤ 1024)
theorem l_apT {A : Int → Int} (hg : MG A) (hk : 0 ≤ k ∧ k < 2) (he : onM A e) (hp : ∀ a, 0 ≤ a → a < A (23 * e + 5) → A (23 * e + (6 + a)) = k → 0 ≤ A (23 * e + (12 + a)) ∧ A (23 * e + (12 + a)) + A (23 * e + (9 + a)) ≤ 1024) : ∀ (n : Nat) (a : Int) (X : zM), X 172 = A → 0 ≤ a → a + n = ((A (23 * e + 5)).toNat : Nat) → TkB (X 181) (80 + a) → (∀ Q, wp none (d + 3) 195 (zpg 195 53) [.inr (some 171), .inl bu, .inl k, .inl e, .inl a] [] X Q ↔ wp none (d + 3) 195 (zpg 195 109) [.inr (some 171), .inl bu, .inl k, .inl e, .inl (A (23 * e + 5))] [] (setc X 181 (lp (apT A e k) n a (X 181))) Q)
  | 0, a, X, hX, h0, h1, hb, Q => by
    have hd : 0 ≤ e ∧ e < 20 := ⟨he.1.1, by have := he.1.2.1; omega⟩
    have hm := MG_many hg hd
    conv => lhs; rw [pg_195_53]
    simp (disch := omega) only [wp_iload, wp_aload, wp_istore, wp_astore, wp_iinc, wp_iconst, wp_dup, wp_dup2, wp_pop, wp_iadd, wp_isub, wp_imul, wp_idiv, wp_irem, wp_ineg, wp_iand, wp_ior, wp_ixor, wp_ishl, wp_ishr, wp_getI, wp_putI, wp_getR, wp_goto, wp_goto_w, wq_if_eq, wq_if_ne, wq_if_lt, wq_if_ge, wq_if_gt, wq_if_le, wq_icmp_eq, wq_icmp_ne, wq_icmp_lt, wq_icmp_ge, wq_icmp_gt, wq_icmp_le, wp_max, wp_min, kI_inl, kR_some, kN_inl, kO_some, KT_none, KT_some, List.length_cons, List.length_nil, Nat.reduceAdd, Nat.reduceLT, Nat.reduceLeDiff, Nat.reduceMod, Nat.reduceDiv, true_and, and_true, Int.reduceLE, Int.reduceNeg, Int.reduceLT, Int.cast_ofNat_Int, Nat.zero_le, zI, Int.reduceAdd, Int.reduceSub, Int.reduceMul, not_true_eq_false, not_false_eq_true, false_implies, true_implies, i01_0, i01_1, ite_not, ↓reduceIte, zget_0, zget_1, zget_2, zget_3, zget_4, zget_5, zget_6, zget_7, zget_8, zget_9, zget_10, zset_0, zset_1, zset_2, zset_3, zset_4, zset_5, zset_6, zset_7, zset_8, zset_9, zset_10, kd_171, rf_171_0, rf_171_1, rf_171_3, rf_171_4, rf_171_5, rf_171_6, rf_171_7, rf_171_8, rf_171_10, rf_171_13, rf_171_14, rf_171_15, rf_171_16, rf_171_17, rf_171_20, rf_171_21, rf_171_27, rf_171_28, rf_171_29, rf_171_30, rf_171_31, cw_142, c_of, hX, show A (23 * e + 5) ≤ a by omega, if_true, lp, setc_self]
    rw [show a = A (23 * e + 5) by omega]
  | n + 1, a, X, hX, h0, h1, hb, Q => by
    have hd : 0 ≤ e ∧ e < 20 := ⟨he.1.1, by have := he.1.2.1; omega⟩
    have hm := MG_many hg hd
    have hap := MG_ap hg hd (a := a) (by omega)
    simp only [lp]
    by_cases c : A (23 * e + (6 + a)) = k
    · have hpa := hp a h0 (by omega) c
      have hmk := fun Q => c_mark (d := d + 1) (im := X) (Q := Q) (fr := A (23 * e + (12 + a))) (sz := A (23 * e + (9 + a))) (y := 1) hpa.1 ⟨by omega, hpa.2⟩ (by omega) hb (by omega)
      have ec : apT A e k a (X 181) = mkT (X 181) (A (23 * e + (12 + a))) (A (23 * e + (9 + a))) 1 := if_pos c
      have ih := l_apT hg hk he hp n (a + 1) (setc X 181 (mkT (X 181) (A (23 * e + (12 + a))) (A (23 * e + (9 + a))) 1)) (by rw [setc_ne _ _ (by omega)]; exact hX) (by omega) (by omega) (by rw [setc_at, show 80 + (a + 1) = 80 + a + 1 by omega]; exact TkB_mk hb (by omega)) Q
      rw [setc_at, setc_setc] at ih
      rw [ec, ← ih]
      conv => lhs; rw [pg_195_53]
      simp (disch := omega) only [wp_iload, wp_aload, wp_istore, wp_astore, wp_iinc, wp_iconst, wp_dup, wp_dup2, wp_pop, wp_iadd, wp_isub, wp_imul, wp_idiv, wp_irem, wp_ineg, wp_iand, wp_ior, wp_ixor, wp_ishl, wp_ishr, wp_getI, wp_putI, wp_getR, wp_goto, wp_goto_w, wq_if_eq, wq_if_ne, wq_if_lt, wq_if_ge, wq_if_gt, wq_if_le, wq_icmp_eq, wq_icmp_ne, wq_icmp_lt, wq_icmp_ge, wq_icmp_gt, wq_icmp_le, wp_max, wp_min, kI_inl, kR_some, kN_inl, kO_some, KT_none, KT_some, List.length_cons, List.length_nil, Nat.reduceAdd, Nat.reduceLT, Nat.reduceLeDiff, Nat.reduceMod, Nat.reduceDiv, true_and, and_true, Int.reduceLE, Int.reduceNeg, Int.reduceLT, Int.cast_ofNat_Int, Nat.zero_le, zI, Int.reduceAdd, Int.reduceSub, Int.reduceMul, not_true_eq_false, not_false_eq_true, false_implies, true_implies, i01_0, i01_1, ite_not, ↓reduceIte, zget_0, zget_1, zget_2, zget_3, zget_4, zget_5, zget_6, zget_7, zget_8, zget_9, zget_10, zset_0, zset_1, zset_2, zset_3, zset_4, zset_5, zset_6, zset_7, zset_8, zset_9, zset_10, kd_171, rf_171_0, rf_171_1, rf_171_3, rf_171_4, rf_171_5, rf_171_6, rf_171_7, rf_171_8, rf_171_10, rf_171_13, rf_171_14, rf_171_15, rf_171_16, rf_171_17, rf_171_20, rf_171_21, rf_171_27, rf_171_28, rf_171_29, rf_171_30, rf_171_31, cw_142, cw_194, c_of, hX, show ¬ A (23 * e + 5) ≤ a by omega, if_false, c, not_true_eq_false, hmk]
      try (repeat (refine (and_iff_right (by omega)).trans ?_))
      try exact Iff.rfl
    · have ec : apT A e k a (X 181) = X 181 := if_neg c
      have ih := l_apT hg hk he hp n (a + 1) X hX (by omega) (by omega) (fun u q0 q1 => by have := hb u q0 q1; omega) Q
      rw [ec, ← ih]
      conv => lhs; rw [pg_195_53]
      simp (disch := omega) only [wp_iload, wp_aload, wp_istore, wp_astore, wp_iinc, wp_iconst, wp_dup, wp_dup2, wp_pop, wp_iadd, wp_isub, wp_imul, wp_idiv, wp_irem, wp_ineg, wp_iand, wp_ior, wp_ixor, wp_ishl, wp_ishr, wp_getI, wp_putI, wp_getR, wp_goto, wp_goto_w, wq_if_eq, wq_if_ne, wq_if_lt, wq_if_ge, wq_if_gt, wq_if_le, wq_icmp_eq, wq_icmp_ne, wq_icmp_lt, wq_icmp_ge, wq_icmp_gt, wq_icmp_le, wp_max, wp_min, kI_inl, kR_some, kN_inl, kO_some, KT_none, KT_some, List.length_cons, List.length_nil, Nat.reduceAdd, Nat.reduceLT, Nat.reduceLeDiff, Nat.reduceMod, Nat.reduceDiv, true_and, and_true, Int.reduceLE, Int.reduceNeg, Int.reduceLT, Int.cast_ofNat_Int, Nat.zero_le, zI, Int.reduceAdd, Int.reduceSub, Int.reduceMul, not_true_eq_false, not_false_eq_true, false_implies, true_implies, i01_0, i01_1, ite_not, ↓reduceIte, zget_0, zget_1, zget_2, zget_3, zget_4, zget_5, zget_6, zget_7, zget_8, zget_9, zget_10, zset_0, zset_1, zset_2, zset_3, zset_4, zset_5, zset_6, zset_7, zset_8, zset_9, zset_10, kd_171, rf_171_0, rf_171_1, rf_171_3, rf_171_4, rf_171_5, rf_171_6, rf_171_7, rf_171_8, rf_171_10, rf_171_13, rf_171_14, rf_171_15, rf_171_16, rf_171_17, rf_171_20, rf_171_21, rf_171_27, rf_171_28, rf_171_29, rf_171_30, rf_171_31, cw_142, cw_194, pg_195_103, c_of, hX, show ¬ A (23 * e + 5) ≤ a by omega, if_false, c, not_false_eq_true, if_true]
      try (repeat (refine (and_iff_right (by omega)).trans ?_))
      try exact Iff.rfl
theorem TkB_ap {A T : Int → Int} {m : Int} (hm : m ≤ 900) : ∀ (n : Nat) (a : Int) (T : Int → Int), TkB T m → TkB (lp (apT A e k) n a T) (m + n)
  | 0, a, T, h => by simp only [lp]; intro u q0 q1; have := h u q0 q1; omega
  | n + 1, a, T, h => by
    have h2 : TkB (apT A e k a T) (m + 1) := by
      unfold apT
      split
      · exact TkB_mk h (by omega)
      · intro u q0 q1
        have := h u q0 q1
        omega
    have key : ∀ (n : Nat) (a : Int) (T : Int → Int) (m : Int), TkB T m → TkB (lp (apT A e k) n a T) (m + n) := by
      intro n
      induction n with
      | zero => intro a T m h u q0 q1; have := h u q0 q1; simp only [lp]; omega
      | succ n ih =>
        intro a T m h
        have h3 : TkB (apT A e k a T) (m + 1) := by
          unfold apT
          split
          · exact TkB_mk h (by omega)
          · intro u q0 q1
            have := h u q0 q1
            omega
        have := ih (a + 1) (apT A e k a T) (m + 1) h3
        intro u q0 q1
        have := this u q0 q1
        simp only [lp]
        omega
    have := key n (a + 1) (apT A e k a T) (m + 1) h2
    intro u q0 q1
    have := this u q0 q1
    simp only [lp]
    omega
theorem l_dvT {A : Int → Int} (hg : MG A) (hk : 0 ≤ k ∧ k < 2) (hb : 0 ≤ bu ∧ bu ≤ 20) (hp : TkP A bu k) : ∀ (n : Nat) (e : Int) (X : zM) (x4 : zV), X 172 = A → 0 ≤ e → e + n = 20 → TkB (X 181) (4 * e) → (∀ Q, wp none (d + 3) 195 (zpg 195 24) [.inr (some 171), .inl bu, .inl k, .inl e, x4] [] X Q ↔ Q none (setc X 181 (lp (dvT A bu k) n e (X 181)))) ∧ TkB (lp (dvT A bu k) n e (X 181)) 80
  | 0, e, X, x4, hX, h0, h1, hT => by
    refine ⟨fun Q => ?_, fun u q0 q1 => by have := hT u q0 q1; simp only [lp]; omega⟩
    rw [pg_195_24]
    simp (disch := omega) only [wp_return rk_195, pg_195_22, pg_195_50, pg_195_103, pg_195_109, pg_195_144, pg_195_150, cw_142, cw_147, cw_175, cw_194, wp_iload, wp_aload, wp_istore, wp_astore, wp_iinc, wp_iconst, wp_dup, wp_dup2, wp_pop, wp_iadd, wp_isub, wp_imul, wp_idiv, wp_irem, wp_ineg, wp_iand, wp_ior, wp_ixor, wp_ishl, wp_ishr, wp_getI, wp_putI, wp_getR, wp_goto, wp_goto_w, wq_if_eq, wq_if_ne, wq_if_lt, wq_if_ge, wq_if_gt, wq_if_le, wq_icmp_eq, wq_icmp_ne, wq_icmp_lt, wq_icmp_ge, wq_icmp_gt, wq_icmp_le, wp_max, wp_min, kI_inl, kR_some, kN_inl, kO_some, KT_none, KT_some, List.length_cons, List.length_nil, Nat.reduceAdd, Nat.reduceLT, Nat.reduceLeDiff, Nat.reduceMod, Nat.reduceDiv, true_and, and_true, Int.reduceLE, Int.reduceNeg, Int.reduceLT, Int.cast_ofNat_Int, Nat.zero_le, zI, Int.reduceAdd, Int.reduceSub, Int.reduceMul, not_true_eq_false, not_false_eq_true, false_implies, true_implies, i01_0, i01_1, ite_not, ↓reduceIte, zget_0, zget_1, zget_2, zget_3, zget_4, zget_5, zget_6, zget_7, zget_8, zget_9, zget_10, zset_0, zset_1, zset_2, zset_3, zset_4, zset_5, zset_6, zset_7, zset_8, zset_9, zset_10, show 20 ≤ e by omega, if_true, lp, setc_self]
  | n + 1, e, X, x4, hX, h0, h1, hT => by
    have hd : 0 ≤ e ∧ e < 20 := by omega
    have hbo := fun Q => c_busOf (d := d + 1) (im := X) (dv := e) (Q := Q) hd
    have hon := fun Q => c_onM (d := d) (im := X) (dv := e) (Q := Q)
    rw [hX] at hbo hon
    simp only [lp]
    by_cases c : onM A e ∧ buM A e = bu
    · have hp' := hp e c.1 c.2
      have hm := MG_many hg hd
      have hw := MG_win hg hd hk
      have hap := l_apT (d := d) (bu := bu) hg hk c.1 hp'.1 (A (23 * e + 5)).toNat 0 X hX (by omega) (by omega) (fun u q0 q1 => by have := hT u q0 q1; omega)
      have hTa := TkB_ap (A := A) (e := e) (k := k) (T := X 181) (m := 4 * e) (by omega) (A (23 * e + 5)).toNat 0 (X 181) hT
      have e0 : ∀ Q, wp none (d + 3) 195 (zpg 195 24) [.inr (some 171), .inl bu, .inl k, .inl e, x4] [] X Q ↔ wp none (d + 3) 195 (zpg 195 109) [.inr (some 171), .inl bu, .inl k, .inl e, .inl (A (23 * e + 5))] [] (setc X 181 (lp (apT A e k) (A (23 * e + 5)).toNat 0 (X 181))) Q := by
        intro Q
        rw [← hap Q]
        conv => lhs; rw [pg_195_24]
        simp (disch := omega) only [pg_195_50, cw_147, cw_175, wp_iload, wp_aload, wp_istore, wp_astore, wp_iinc, wp_iconst, wp_dup, wp_dup2, wp_pop, wp_iadd, wp_isub, wp_imul, wp_idiv, wp_irem, wp_ineg, wp_iand, wp_ior, wp_ixor, wp_ishl, wp_ishr, wp_getI, wp_putI, wp_getR, wp_goto, wp_goto_w, wq_if_eq, wq_if_ne, wq_if_lt, wq_if_ge, wq_if_gt, wq_if_le, wq_icmp_eq, wq_icmp_ne, wq_icmp_lt, wq_icmp_ge, wq_icmp_gt, wq_icmp_le, wp_max, wp_min, kI_inl, kR_some, kN_inl, kO_some, KT_none, KT_some, List.length_cons, List.length_nil, Nat.reduceAdd, Nat.reduceLT, Nat.reduceLeDiff, Nat.reduceMod, Nat.reduceDiv, true_and, and_true, Int.reduceLE, Int.reduceNeg, Int.reduceLT, Int.cast_ofNat_Int, Nat.zero_le, zI, Int.reduceAdd, Int.reduceSub, Int.reduceMul, not_true_eq_false, not_false_eq_true, false_implies, true_implies, i01_0, i01_1, ite_not, ↓reduceIte, zget_0, zget_1, zget_2, zget_3, zget_4, zget_5, zget_6, zget_7, zget_8, zget_9, zget_10, zset_0, zset_1, zset_2, zset_3, zset_4, zset_5, zset_6, zset_7, zset_8, zset_9, zset_10, kd_171, rf_171_0, rf_171_1, rf_171_3, rf_171_4, rf_171_5, rf_171_6, rf_171_7, rf_171_8, rf_171_10, rf_171_13, rf_171_14, rf_171_15, rf_171_16, rf_171_17, rf_171_20, rf_171_21, rf_171_27, rf_171_28, rf_171_29, rf_171_30, rf_171_31, hon, hbo, if_pos c.1, show ¬ 20 ≤ e by omega, if_false, c.2, if_true]
        try simp only [show ¬ (1 : Int) = 0 by omega, if_false]
      have eX : setc X 181 (lp (apT A e k) (A (23 * e + 5)).toNat 0 (X 181)) 172 = A := by rw [setc_ne _ _ (by omega)]; exact hX
      by_cases c2 : 0 < A (23 * e + (21 + k))
      · have hmk := fun Q => c_mark (d := d + 1) (im := setc X 181 (lp (apT A e k) (A (23 * e + 5)).toNat 0 (X 181))) (Q := Q) (fr := A (23 * e + (19 + k))) (sz := A (23 * e + (21 + k))) (y := 1) (m := 900) (hp'.2 c2).1 ⟨by omega, (hp'.2 c2).2⟩ (by omega) (by rw [setc_at]; exact fun u q0 q1 => by have := hTa u q0 q1; omega) (by omega)
        rw [setc_at, setc_setc] at hmk
        have ec : dvT A bu k e (X 181) = mkT (lp (apT A e k) (A (23 * e + 5)).toNat 0 (X 181)) (A (23 * e + (19 + k))) (A (23 * e + (21 + k))) 1 := by
          unfold dvT
          rw [if_pos c, if_pos c2]
        have ih := fun x4 => l_dvT hg hk hb hp n (e + 1) (setc X 181 (dvT A bu k e (X 181))) x4 (by rw [setc_ne _ _ (by omega)]; exact hX) (by omega) (by omega) (by
          rw [setc_at, ec]
          exact fun u q0 q1 => by have := TkB_mk (fr := A (23 * e + (19 + k))) (sz := A (23 * e + (21 + k))) (y := 1) hTa (by omega) u q0 q1; omega)
        simp only [setc_at, setc_setc] at ih
        refine ⟨fun Q => ?_, (ih (.inr none)).2⟩
        rw [e0, ← (ih (.inl (A (23 * e + 5)))).1 Q, ec]
        conv => lhs; rw [pg_195_109]
        simp (disch := omega) only [cw_142, cw_194, wp_iload, wp_aload, wp_istore, wp_astore, wp_iinc, wp_iconst, wp_dup, wp_dup2, wp_pop, wp_iadd, wp_isub, wp_imul, wp_idiv, wp_irem, wp_ineg, wp_iand, wp_ior, wp_ixor, wp_ishl, wp_ishr, wp_getI, wp_putI, wp_getR, wp_goto, wp_goto_w, wq_if_eq, wq_if_ne, wq_if_lt, wq_if_ge, wq_if_gt, wq_if_le, wq_icmp_eq, wq_icmp_ne, wq_icmp_lt, wq_icmp_ge, wq_icmp_gt, wq_icmp_le, wp_max, wp_min, kI_inl, kR_some, kN_inl, kO_some, KT_none, KT_some, List.length_cons, List.length_nil, Nat.reduceAdd, Nat.reduceLT, Nat.reduceLeDiff, Nat.reduceMod, Nat.reduceDiv, true_and, and_true, Int.reduceLE, Int.reduceNeg, Int.reduceLT, Int.cast_ofNat_Int, Nat.zero_le, zI, Int.reduceAdd, Int.reduceSub, Int.reduceMul, not_true_eq_false, not_false_eq_true, false_implies, true_implies, i01_0, i01_1, ite_not, ↓reduceIte, zget_0, zget_1, zget_2, zget_3, zget_4, zget_5, zget_6, zget_7, zget_8, zget_9, zget_10, zset_0, zset_1, zset_2, zset_3, zset_4, zset_5, zset_6, zset_7, zset_8, zset_9, zset_10, kd_171, rf_171_0, rf_171_1, rf_171_3, rf_171_4, rf_171_5, rf_171_6, rf_171_7, rf_171_8, rf_171_10, rf_171_13, rf_171_14, rf_171_15, rf_171_16, rf_171_17, rf_171_20, rf_171_21, rf_171_27, rf_171_28, rf_171_29, rf_171_30, rf_171_31, c_of, eX, show ¬ A (23 * e + (21 + k)) ≤ 0 by omega, if_false, hmk]
        try (repeat (refine (and_iff_right (by omega)).trans ?_))
        try exact Iff.rfl
      · have ec : dvT A bu k e (X 181) = lp (apT A e k) (A (23 * e + 5)).toNat 0 (X 181) := by
          unfold dvT
          rw [if_pos c, if_neg c2]
        have ih := fun x4 => l_dvT hg hk hb hp n (e + 1) (setc X 181 (dvT A bu k e (X 181))) x4 (by rw [setc_ne _ _ (by omega)]; exact hX) (by omega) (by omega) (by
          rw [setc_at, ec]
          exact fun u q0 q1 => by have := hTa u q0 q1; omega)
        simp only [setc_at, setc_setc] at ih
        refine ⟨fun Q => ?_, (ih (.inr none)).2⟩
        rw [e0, ← (ih (.inl (A (23 * e + 5)))).1 Q, ec]
        conv => lhs; rw [pg_195_109]
        simp (disch := omega) only [cw_142, cw_194, pg_195_144, wp_iload, wp_aload, wp_istore, wp_astore, wp_iinc, wp_iconst, wp_dup, wp_dup2, wp_pop, wp_iadd, wp_isub, wp_imul, wp_idiv, wp_irem, wp_ineg, wp_iand, wp_ior, wp_ixor, wp_ishl, wp_ishr, wp_getI, wp_putI, wp_getR, wp_goto, wp_goto_w, wq_if_eq, wq_if_ne, wq_if_lt, wq_if_ge, wq_if_gt, wq_if_le, wq_icmp_eq, wq_icmp_ne, wq_icmp_lt, wq_icmp_ge, wq_icmp_gt, wq_icmp_le, wp_max, wp_min, kI_inl, kR_some, kN_inl, kO_some, KT_none, KT_some, List.length_cons, List.length_nil, Nat.reduceAdd, Nat.reduceLT, Nat.reduceLeDiff, Nat.reduceMod, Nat.reduceDiv, true_and, and_true, Int.reduceLE, Int.reduceNeg, Int.reduceLT, Int.cast_ofNat_Int, Nat.zero_le, zI, Int.reduceAdd, Int.reduceSub, Int.reduceMul, not_true_eq_false, not_false_eq_true, false_implies, true_implies, i01_0, i01_1, ite_not, ↓reduceIte, zget_0, zget_1, zget_2, zget_3, zget_4, zget_5, zget_6, zget_7, zget_8, zget_9, zget_10, zset_0, zset_1, zset_2, zset_3, zset_4, zset_5, zset_6, zset_7, zset_8, zset_9, zset_10, kd_171, rf_171_0, rf_171_1, rf_171_3, rf_171_4, rf_171_5, rf_171_6, rf_171_7, rf_171_8, rf_171_10, rf_171_13, rf_171_14, rf_171_15, rf_171_16, rf_171_17, rf_171_20, rf_171_21, rf_171_27, rf_171_28, rf_171_29, rf_171_30, rf_171_31, c_of, eX, show A (23 * e + (21 + k)) ≤ 0 by omega, if_true]
        try (repeat (refine (and_iff_right (by omega)).trans ?_))
        try exact Iff.rfl
    · have ec : dvT A bu k e (X 181) = X 181 := if_neg c
      have ih := fun x4 => l_dvT hg hk hb hp n (e + 1) X x4 hX (by omega) (by omega) (fun u q0 q1 => by have := hT u q0 q1; omega)
      rw [ec]
      refine ⟨fun Q => ?_, (ih (.inr none)).2⟩
      rw [← (ih x4).1 Q]
      conv => lhs; rw [pg_195_24]
      by_cases c1 : onM A e
      · have c3 : ¬ buM A e = bu := fun q => c ⟨c1, q⟩
        simp (disch := omega) only [pg_195_144, cw_147, cw_175, wp_iload, wp_aload, wp_istore, wp_astore, wp_iinc, wp_iconst, wp_dup, wp_dup2, wp_pop, wp_iadd, wp_isub, wp_imul, wp_idiv, wp_irem, wp_ineg, wp_iand, wp_ior, wp_ixor, wp_ishl, wp_ishr, wp_getI, wp_putI, wp_getR, wp_goto, wp_goto_w, wq_if_eq, wq_if_ne, wq_if_lt, wq_if_ge, wq_if_gt, wq_if_le, wq_icmp_eq, wq_icmp_ne, wq_icmp_lt, wq_icmp_ge, wq_icmp_gt, wq_icmp_le, wp_max, wp_min, kI_inl, kR_some, kN_inl, kO_some, KT_none, KT_some, List.length_cons, List.length_nil, Nat.reduceAdd, Nat.reduceLT, Nat.reduceLeDiff, Nat.reduceMod, Nat.reduceDiv, true_and, and_true, Int.reduceLE, Int.reduceNeg, Int.reduceLT, Int.cast_ofNat_Int, Nat.zero_le, zI, Int.reduceAdd, Int.reduceSub, Int.reduceMul, not_true_eq_false, not_false_eq_true, false_implies, true_implies, i01_0, i01_1, ite_not, ↓reduceIte, zget_0, zget_1, zget_2, zget_3, zget_4, zget_5, zget_6, zget_7, zget_8, zget_9, zget_10, zset_0, zset_1, zset_2, zset_3, zset_4, zset_5, zset_6, zset_7, zset_8, zset_9, zset_10, kd_171, rf_171_0, rf_171_1, rf_171_3, rf_171_4, rf_171_5, rf_171_6, rf_171_7, rf_171_8, rf_171_10, rf_171_13, rf_171_14, rf_171_15, rf_171_16, rf_171_17, rf_171_20, rf_171_21, rf_171_27, rf_171_28, rf_171_29, rf_171_30, rf_171_31, hon, hbo, if_pos c1, show ¬ 20 ≤ e by omega, if_false, c3]
        try simp only [show ¬ (1 : Int) = 0 by omega, if_false]
        try (repeat (refine (and_iff_right (by omega)).trans ?_))
        try exact Iff.rfl
      · simp (disch := omega) only [pg_195_144, cw_147, cw_175, wp_iload, wp_aload, wp_istore, wp_astore, wp_iinc, wp_iconst, wp_dup, wp_dup2, wp_pop, wp_iadd, wp_isub, wp_imul, wp_idiv, wp_irem, wp_ineg, wp_iand, wp_ior, wp_ixor, wp_ishl, wp_ishr, wp_getI, wp_putI, wp_getR, wp_goto, wp_goto_w, wq_if_eq, wq_if_ne, wq_if_lt, wq_if_ge, wq_if_gt, wq_if_le, wq_icmp_eq, wq_icmp_ne, wq_icmp_lt, wq_icmp_ge, wq_icmp_gt, wq_icmp_le, wp_max, wp_min, kI_inl, kR_some, kN_inl, kO_some, KT_none, KT_some, List.length_cons, List.length_nil, Nat.reduceAdd, Nat.reduceLT, Nat.reduceLeDiff, Nat.reduceMod, Nat.reduceDiv, true_and, and_true, Int.reduceLE, Int.reduceNeg, Int.reduceLT, Int.cast_ofNat_Int, Nat.zero_le, zI, Int.reduceAdd, Int.reduceSub, Int.reduceMul, not_true_eq_false, not_false_eq_true, false_implies, true_implies, i01_0, i01_1, ite_not, ↓reduceIte, zget_0, zget_1, zget_2, zget_3, zget_4, zget_5, zget_6, zget_7, zget_8, zget_9, zget_10, zset_0, zset_1, zset_2, zset_3, zset_4, zset_5, zset_6, zset_7, zset_8, zset_9, zset_10, kd_171, rf_171_0, rf_171_1, rf_171_3, rf_171_4, rf_171_5, rf_171_6, rf_171_7, rf_171_8, rf_171_10, rf_171_13, rf_171_14, rf_171_15, rf_171_16, rf_171_17, rf_171_20, rf_171_21, rf_171_27, rf_171_28, rf_171_29, rf_171_30, rf_171_31, hon, if_neg c1, show ¬ 20 ≤ e by omega, if_false, if_true]
        try (repeat (refine (and_iff_right (by omega)).trans ?_))
        try exact Iff.rfl
/-- the units that are taken on a bus -/
def laT (A T : Int → Int) (bu k : Int) : Int → Int := lp (dvT A bu k) 20 0 (fun j => if 0 ≤ j ∧ j < 1024 then 0 else T j)
theorem c_layTaken (hg : MG (im 172)) (hk : 0 ≤ k ∧ k < 2) (hb : 0 ≤ bu ∧ bu ≤ 20) (hp : TkP (im 172) bu k) : (CallP (d + 3) 195 [.inr (some 171), .inl bu, .inl k] im Q ↔ Q none (setc im 181 (laT (im 172) (im 181) bu k))) ∧ TkB (laT (im 172) (im 181) bu k) 80 := by
  have h0 := l_tk0 (d := d) (x1 := .inl bu) (x2 := .inl k) (x4 := .inr none) 1024 0 im (by omega) (by omega) Q
  have hl := l_dvT (d := d) hg hk hb hp 20 0 (setc im 181 (fun j => if 0 ≤ j ∧ j < 1024 then 0 else im 181 j)) (.inr none) (setc_ne _ _ (by omega)) (by omega) (by omega) (by
    rw [setc_at]
    intro u q0 q1
    dsimp only
    rw [if_pos ⟨q0, q1⟩]
    omega)
  simp only [setc_at, setc_setc] at hl
  refine ⟨?_, hl.2⟩
  have h1 := hl.1 Q
  simp (disch := omega) only [en_195, pg_195_0, wp_iload, wp_aload, wp_istore, wp_astore, wp_iinc, wp_iconst, wp_dup, wp_dup2, wp_pop, wp_iadd, wp_isub, wp_imul, wp_idiv, wp_irem, wp_ineg, wp_iand, wp_ior, wp_ixor, wp_ishl, wp_ishr, wp_getI, wp_putI, wp_getR, wp_goto, wp_goto_w, wq_if_eq, wq_if_ne, wq_if_lt, wq_if_ge, wq_if_gt, wq_if_le, wq_icmp_eq, wq_icmp_ne, wq_icmp_lt, wq_icmp_ge, wq_icmp_gt, wq_icmp_le, wp_max, wp_min, kI_inl, kR_some, kN_inl, kO_some, KT_none, KT_some, List.length_cons, List.length_nil, Nat.reduceAdd, Nat.reduceLT, Nat.reduceLeDiff, Nat.reduceMod, Nat.reduceDiv, true_and, and_true, Int.reduceLE, Int.reduceNeg, Int.reduceLT, Int.cast_ofNat_Int, Nat.zero_le, zI, Int.reduceAdd, Int.reduceSub, Int.reduceMul, not_true_eq_false, not_false_eq_true, false_implies, true_implies, i01_0, i01_1, ite_not, ↓reduceIte, zget_0, zget_1, zget_2, zget_3, zget_4, zget_5, zget_6, zget_7, zget_8, zget_9, zget_10, zset_0, zset_1, zset_2, zset_3, zset_4, zset_5, zset_6, zset_7, zset_8, zset_9, zset_10]
  rw [h0, pg_195_22]
  simp (disch := omega) only [wp_iload, wp_aload, wp_istore, wp_astore, wp_iinc, wp_iconst, wp_dup, wp_dup2, wp_pop, wp_iadd, wp_isub, wp_imul, wp_idiv, wp_irem, wp_ineg, wp_iand, wp_ior, wp_ixor, wp_ishl, wp_ishr, wp_getI, wp_putI, wp_getR, wp_goto, wp_goto_w, wq_if_eq, wq_if_ne, wq_if_lt, wq_if_ge, wq_if_gt, wq_if_le, wq_icmp_eq, wq_icmp_ne, wq_icmp_lt, wq_icmp_ge, wq_icmp_gt, wq_icmp_le, wp_max, wp_min, kI_inl, kR_some, kN_inl, kO_some, KT_none, KT_some, List.length_cons, List.length_nil, Nat.reduceAdd, Nat.reduceLT, Nat.reduceLeDiff, Nat.reduceMod, Nat.reduceDiv, true_and, and_true, Int.reduceLE, Int.reduceNeg, Int.reduceLT, Int.cast_ofNat_Int, Nat.zero_le, zI, Int.reduceAdd, Int.reduceSub, Int.reduceMul, not_true_eq_false, not_false_eq_true, false_implies, true_implies, i01_0, i01_1, ite_not, ↓reduceIte, zget_0, zget_1, zget_2, zget_3, zget_4, zget_5, zget_6, zget_7, zget_8, zget_9, zget_10, zset_0, zset_1, zset_2, zset_3, zset_4, zset_5, zset_6, zset_7, zset_8, zset_9, zset_10]
  exact h1
abbrev frT (T : Int → Int) (u sz : Int) : Prop := ff (fun j => decide (0 < T j)) sz.toNat u = -1
theorem l_frT {fr sz : Int} (hf : 0 ≤ fr) (hs : 0 ≤ sz ∧ fr + sz ≤ 1024) : ∀ (n : Nat) (u : Int), fr ≤ u → u + n = fr + sz → ∀ Q, wp none d 196 (zpg 196 2) [.inr (some 171), .inl fr, .inl sz, .inl u] [] im Q ↔ Q (some (.inl (if ff (fun j => decide (0 < im 181 j)) n u = -1 then 1 else 0))) im
  | 0, u, h0, h1, Q => by
    rw [pg_196_2]
    simp (disch := omega) only [wp_zreturn rk_196, pg_196_20, pg_196_26, wp_iload, wp_aload, wp_istore, wp_astore, wp_iinc, wp_iconst, wp_dup, wp_dup2, wp_pop, wp_iadd, wp_isub, wp_imul, wp_idiv, wp_irem, wp_ineg, wp_iand, wp_ior, wp_ixor, wp_ishl, wp_ishr, wp_getI, wp_putI, wp_getR, wp_goto, wp_goto_w, wq_if_eq, wq_if_ne, wq_if_lt, wq_if_ge, wq_if_gt, wq_if_le, wq_icmp_eq, wq_icmp_ne, wq_icmp_lt, wq_icmp_ge, wq_icmp_gt, wq_icmp_le, wp_max, wp_min, kI_inl, kR_some, kN_inl, kO_some, KT_none, KT_some, List.length_cons, List.length_nil, Nat.reduceAdd, Nat.reduceLT, Nat.reduceLeDiff, Nat.reduceMod, Nat.reduceDiv, true_and, and_true, Int.reduceLE, Int.reduceNeg, Int.reduceLT, Int.cast_ofNat_Int, Nat.zero_le, zI, Int.reduceAdd, Int.reduceSub, Int.reduceMul, not_true_eq_false, not_false_eq_true, false_implies, true_implies, i01_0, i01_1, ite_not, ↓reduceIte, zget_0, zget_1, zget_2, zget_3, zget_4, zget_5, zget_6, zget_7, zget_8, zget_9, zget_10, zset_0, zset_1, zset_2, zset_3, zset_4, zset_5, zset_6, zset_7, zset_8, zset_9, zset_10, kd_171, rf_171_0, rf_171_1, rf_171_3, rf_171_4, rf_171_5, rf_171_6, rf_171_7, rf_171_8, rf_171_10, rf_171_13, rf_171_14, rf_171_15, rf_171_16, rf_171_17, rf_171_20, rf_171_21, rf_171_27, rf_171_28, rf_171_29, rf_171_30, rf_171_31, show fr + sz ≤ u by omega, if_true, ff, or_true, true_and]
    try (repeat (refine (and_iff_right (by omega)).trans ?_))
    try exact Iff.rfl
  | n + 1, u, h0, h1, Q => by
    have ih := l_frT hf hs n (u + 1) (by omega) (by omega) Q
    rw [pg_196_2]
    by_cases c : 0 < im 181 u
    · have ec : ff (fun j => decide (0 < im 181 j)) (n + 1) u = u := if_pos (decide_eq_true c)
      rw [ec, if_neg (show ¬ u = -1 by omega)]
      simp (disch := omega) only [wp_zreturn rk_196, pg_196_20, pg_196_26, wp_iload, wp_aload, wp_istore, wp_astore, wp_iinc, wp_iconst, wp_dup, wp_dup2, wp_pop, wp_iadd, wp_isub, wp_imul, wp_idiv, wp_irem, wp_ineg, wp_iand, wp_ior, wp_ixor, wp_ishl, wp_ishr, wp_getI, wp_putI, wp_getR, wp_goto, wp_goto_w, wq_if_eq, wq_if_ne, wq_if_lt, wq_if_ge, wq_if_gt, wq_if_le, wq_icmp_eq, wq_icmp_ne, wq_icmp_lt, wq_icmp_ge, wq_icmp_gt, wq_icmp_le, wp_max, wp_min, kI_inl, kR_some, kN_inl, kO_some, KT_none, KT_some, List.length_cons, List.length_nil, Nat.reduceAdd, Nat.reduceLT, Nat.reduceLeDiff, Nat.reduceMod, Nat.reduceDiv, true_and, and_true, Int.reduceLE, Int.reduceNeg, Int.reduceLT, Int.cast_ofNat_Int, Nat.zero_le, zI, Int.reduceAdd, Int.reduceSub, Int.reduceMul, not_true_eq_false, not_false_eq_true, false_implies, true_implies, i01_0, i01_1, ite_not, ↓reduceIte, zget_0, zget_1, zget_2, zget_3, zget_4, zget_5, zget_6, zget_7, zget_8, zget_9, zget_10, zset_0, zset_1, zset_2, zset_3, zset_4, zset_5, zset_6, zset_7, zset_8, zset_9, zset_10, kd_171, rf_171_0, rf_171_1, rf_171_3, rf_171_4, rf_171_5, rf_171_6, rf_171_7, rf_171_8, rf_171_10, rf_171_13, rf_171_14, rf_171_15, rf_171_16, rf_171_17, rf_171_20, rf_171_21, rf_171_27, rf_171_28, rf_171_29, rf_171_30, rf_171_31, wp_iaload kd_181, show ¬ fr + sz ≤ u by omega, if_false, show ¬ im 181 u ≤ 0 by omega, true_or, true_and]
      try (repeat (refine (and_iff_right (by omega)).trans ?_))
      try exact Iff.rfl
    · have ec : ff (fun j => decide (0 < im 181 j)) (n + 1) u = ff (fun j => decide (0 < im 181 j)) n (u + 1) := if_neg (fun q => c (of_decide_eq_true q))
      rw [ec]
      simp (disch := omega) only [wp_zreturn rk_196, pg_196_20, pg_196_26, wp_iload, wp_aload, wp_istore, wp_astore, wp_iinc, wp_iconst, wp_dup, wp_dup2, wp_pop, wp_iadd, wp_isub, wp_imul, wp_idiv, wp_irem, wp_ineg, wp_iand, wp_ior, wp_ixor, wp_ishl, wp_ishr, wp_getI, wp_putI, wp_getR, wp_goto, wp_goto_w, wq_if_eq, wq_if_ne, wq_if_lt, wq_if_ge, wq_if_gt, wq_if_le, wq_icmp_eq, wq_icmp_ne, wq_icmp_lt, wq_icmp_ge, wq_icmp_gt, wq_icmp_le, wp_max, wp_min, kI_inl, kR_some, kN_inl, kO_some, KT_none, KT_some, List.length_cons, List.length_nil, Nat.reduceAdd, Nat.reduceLT, Nat.reduceLeDiff, Nat.reduceMod, Nat.reduceDiv, true_and, and_true, Int.reduceLE, Int.reduceNeg, Int.reduceLT, Int.cast_ofNat_Int, Nat.zero_le, zI, Int.reduceAdd, Int.reduceSub, Int.reduceMul, not_true_eq_false, not_false_eq_true, false_implies, true_implies, i01_0, i01_1, ite_not, ↓reduceIte, zget_0, zget_1, zget_2, zget_3, zget_4, zget_5, zget_6, zget_7, zget_8, zget_9, zget_10, zset_0, zset_1, zset_2, zset_3, zset_4, zset_5, zset_6, zset_7, zset_8, zset_9, zset_10, kd_171, rf_171_0, rf_171_1, rf_171_3, rf_171_4, rf_171_5, rf_171_6, rf_171_7, rf_171_8, rf_171_10, rf_171_13, rf_171_14, rf_171_15, rf_171_16, rf_171_17, rf_171_20, rf_171_21, rf_171_27, rf_171_28, rf_171_29, rf_171_30, rf_171_31, wp_iaload kd_181, show ¬ fr + sz ≤ u by omega, if_false, show im 181 u ≤ 0 by omega, if_true]
      repeat (refine (and_iff_right (by omega)).trans ?_)
      exact ih
theorem c_isFreeAt {fr sz : Int} (hf : 0 ≤ fr) (hs : 0 ≤ sz ∧ fr + sz ≤ 1024) : CallP (d + 1) 196 [.inr (some 171), .inl fr, .inl sz] im Q ↔ Q (some (.inl (if frT (im 181) fr sz then 1 else 0))) im := by
  have hl := l_frT (d := d + 1) (im := im) hf hs sz.toNat fr (by omega) (by omega) Q
  simp (disch := omega) only [en_196, pg_196_0, wp_iload, wp_aload, wp_istore, wp_astore, wp_iinc, wp_iconst, wp_dup, wp_dup2, wp_pop, wp_iadd, wp_isub, wp_imul, wp_idiv, wp_irem, wp_ineg, wp_iand, wp_ior, wp_ixor, wp_ishl, wp_ishr, wp_getI, wp_putI, wp_getR, wp_goto, wp_goto_w, wq_if_eq, wq_if_ne, wq_if_lt, wq_if_ge, wq_if_gt, wq_if_le, wq_icmp_eq, wq_icmp_ne, wq_icmp_lt, wq_icmp_ge, wq_icmp_gt, wq_icmp_le, wp_max, wp_min, kI_inl, kR_some, kN_inl, kO_some, KT_none, KT_some, List.length_cons, List.length_nil, Nat.reduceAdd, Nat.reduceLT, Nat.reduceLeDiff, Nat.reduceMod, Nat.reduceDiv, true_and, and_true, Int.reduceLE, Int.reduceNeg, Int.reduceLT, Int.cast_ofNat_Int, Nat.zero_le, zI, Int.reduceAdd, Int.reduceSub, Int.reduceMul, not_true_eq_false, not_false_eq_true, false_implies, true_implies, i01_0, i01_1, ite_not, ↓reduceIte, zget_0, zget_1, zget_2, zget_3, zget_4, zget_5, zget_6, zget_7, zget_8, zget_9, zget_10, zset_0, zset_1, zset_2, zset_3, zset_4, zset_5, zset_6, zset_7, zset_8, zset_9, zset_10]
  exact hl
def loM (T : Int → Int) (sz st en : Int) : Nat → Int → Int
  | 0, _ => -1
  | n + 1, u => if u + sz ≤ en then (if frT T u sz then u else loM T sz st en n (u + st)) else -1
theorem l_loM {sz st en : Int} (hs : 1 ≤ sz ∧ sz ≤ 1024) (hst : 1 ≤ st ∧ st ≤ 1000000) (hen : en ≤ 1024) {x1 x2 : zV} : ∀ (n : Nat) (u : Int), 0 ≤ u ∧ u ≤ 10000000 → en < u + n → ∀ Q, wp none (d + 2) 197 (zpg 197 39) [.inr (some 171), x1, x2, .inl sz, .inl st, .inl en, .inl u] [] im Q ↔ Q (some (.inl (loM (im 181) sz st en n u))) im
  | 0, u, h0, h1, Q => by
    rw [pg_197_39]
    simp (disch := omega) only [wp_ireturn rk_197, pg_197_11, pg_197_61, pg_197_71, cw_178, cw_191, cw_192, cw_196, wp_iload, wp_aload, wp_istore, wp_astore, wp_iinc, wp_iconst, wp_dup, wp_dup2, wp_pop, wp_iadd, wp_isub, wp_imul, wp_idiv, wp_irem, wp_ineg, wp_iand, wp_ior, wp_ixor, wp_ishl, wp_ishr, wp_getI, wp_putI, wp_getR, wp_goto, wp_goto_w, wq_if_eq, wq_if_ne, wq_if_lt, wq_if_ge, wq_if_gt, wq_if_le, wq_icmp_eq, wq_icmp_ne, wq_icmp_lt, wq_icmp_ge, wq_icmp_gt, wq_icmp_le, wp_max, wp_min, kI_inl, kR_some, kN_inl, kO_some, KT_none, KT_some, List.length_cons, List.length_nil, Nat.reduceAdd, Nat.reduceLT, Nat.reduceLeDiff, Nat.reduceMod, Nat.reduceDiv, true_and, and_true, Int.reduceLE, Int.reduceNeg, Int.reduceLT, Int.cast_ofNat_Int, Nat.zero_le, zI, Int.reduceAdd, Int.reduceSub, Int.reduceMul, not_true_eq_false, not_false_eq_true, false_implies, true_implies, i01_0, i01_1, ite_not, ↓reduceIte, zget_0, zget_1, zget_2, zget_3, zget_4, zget_5, zget_6, zget_7, zget_8, zget_9, zget_10, zset_0, zset_1, zset_2, zset_3, zset_4, zset_5, zset_6, zset_7, zset_8, zset_9, zset_10, kd_171, rf_171_0, rf_171_1, rf_171_3, rf_171_4, rf_171_5, rf_171_6, rf_171_7, rf_171_8, rf_171_10, rf_171_13, rf_171_14, rf_171_15, rf_171_16, rf_171_17, rf_171_20, rf_171_21, rf_171_27, rf_171_28, rf_171_29, rf_171_30, rf_171_31, show en < u + sz by omega, if_true, loM]
    try (repeat (refine (and_iff_right (by omega)).trans ?_))
    try exact Iff.rfl
  | n + 1, u, h0, h1, Q => by
    rw [pg_197_39]
    by_cases c : u + sz ≤ en
    · have ih := l_loM hs hst hen (x1 := x1) (x2 := x2) n (u + st) (by omega) (by omega) Q
      have hfr := fun Q => c_isFreeAt (d := d) (im := im) (fr := u) (sz := sz) (Q := Q) h0.1 (by omega)
      by_cases c2 : frT (im 181) u sz
      · have ec : loM (im 181) sz st en (n + 1) u = u := by simp only [loM, if_pos c, if_pos c2]
        rw [ec]
        simp (disch := omega) only [wp_ireturn rk_197, pg_197_11, pg_197_61, pg_197_71, cw_178, cw_191, cw_192, cw_196, wp_iload, wp_aload, wp_istore, wp_astore, wp_iinc, wp_iconst, wp_dup, wp_dup2, wp_pop, wp_iadd, wp_isub, wp_imul, wp_idiv, wp_irem, wp_ineg, wp_iand, wp_ior, wp_ixor, wp_ishl, wp_ishr, wp_getI, wp_putI, wp_getR, wp_goto, wp_goto_w, wq_if_eq, wq_if_ne, wq_if_lt, wq_if_ge, wq_if_gt, wq_if_le, wq_icmp_eq, wq_icmp_ne, wq_icmp_lt, wq_icmp_ge, wq_icmp_gt, wq_icmp_le, wp_max, wp_min, kI_inl, kR_some, kN_inl, kO_some, KT_none, KT_some, List.length_cons, List.length_nil, Nat.reduceAdd, Nat.reduceLT, Nat.reduceLeDiff, Nat.reduceMod, Nat.reduceDiv, true_and, and_true, Int.reduceLE, Int.reduceNeg, Int.reduceLT, Int.cast_ofNat_Int, Nat.zero_le, zI, Int.reduceAdd, Int.reduceSub, Int.reduceMul, not_true_eq_false, not_false_eq_true, false_implies, true_implies, i01_0, i01_1, ite_not, ↓reduceIte, zget_0, zget_1, zget_2, zget_3, zget_4, zget_5, zget_6, zget_7, zget_8, zget_9, zget_10, zset_0, zset_1, zset_2, zset_3, zset_4, zset_5, zset_6, zset_7, zset_8, zset_9, zset_10, kd_171, rf_171_0, rf_171_1, rf_171_3, rf_171_4, rf_171_5, rf_171_6, rf_171_7, rf_171_8, rf_171_10, rf_171_13, rf_171_14, rf_171_15, rf_171_16, rf_171_17, rf_171_20, rf_171_21, rf_171_27, rf_171_28, rf_171_29, rf_171_30, rf_171_31, show ¬ en < u + sz by omega, if_false, hfr, if_pos c2]
        try simp only [show ¬ (1 : Int) = 0 by omega, if_false]
        try (repeat (refine (and_iff_right (by omega)).trans ?_))
        try exact Iff.rfl
      · have ec : loM (im 181) sz st en (n + 1) u = loM (im 181) sz st en n (u + st) := by simp only [loM, if_pos c, if_neg c2]
        rw [ec]
        simp (disch := omega) only [wp_ireturn rk_197, pg_197_11, pg_197_61, pg_197_71, cw_178, cw_191, cw_192, cw_196, wp_iload, wp_aload, wp_istore, wp_astore, wp_iinc, wp_iconst, wp_dup, wp_dup2, wp_pop, wp_iadd, wp_isub, wp_imul, wp_idiv, wp_irem, wp_ineg, wp_iand, wp_ior, wp_ixor, wp_ishl, wp_ishr, wp_getI, wp_putI, wp_getR, wp_goto, wp_goto_w, wq_if_eq, wq_if_ne, wq_if_lt, wq_if_ge, wq_if_gt, wq_if_le, wq_icmp_eq, wq_icmp_ne, wq_icmp_lt, wq_icmp_ge, wq_icmp_gt, wq_icmp_le, wp_max, wp_min, kI_inl, kR_some, kN_inl, kO_some, KT_none, KT_some, List.length_cons, List.length_nil, Nat.reduceAdd, Nat.reduceLT, Nat.reduceLeDiff, Nat.reduceMod, Nat.reduceDiv, true_and, and_true, Int.reduceLE, Int.reduceNeg, Int.reduceLT, Int.cast_ofNat_Int, Nat.zero_le, zI, Int.reduceAdd, Int.reduceSub, Int.reduceMul, not_true_eq_false, not_false_eq_true, false_implies, true_implies, i01_0, i01_1, ite_not, ↓reduceIte, zget_0, zget_1, zget_2, zget_3, zget_4, zget_5, zget_6, zget_7, zget_8, zget_9, zget_10, zset_0, zset_1, zset_2, zset_3, zset_4, zset_5, zset_6, zset_7, zset_8, zset_9, zset_10, kd_171, rf_171_0, rf_171_1, rf_171_3, rf_171_4, rf_171_5, rf_171_6, rf_171_7, rf_171_8, rf_171_10, rf_171_13, rf_171_14, rf_171_15, rf_171_16, rf_171_17, rf_171_20, rf_171_21, rf_171_27, rf_171_28, rf_171_29, rf_171_30, rf_171_31, show ¬ en < u + sz by omega, if_false, hfr, if_neg c2, if_true]
        repeat (refine (and_iff_right (by omega)).trans ?_)
        exact ih
    · have ec : loM (im 181) sz st en (n + 1) u = -1 := if_neg c
      rw [ec]
      simp (disch := omega) only [wp_ireturn rk_197, pg_197_11, pg_197_61, pg_197_71, cw_178, cw_191, cw_192, cw_196, wp_iload, wp_aload, wp_istore, wp_astore, wp_iinc, wp_iconst, wp_dup, wp_dup2, wp_pop, wp_iadd, wp_isub, wp_imul, wp_idiv, wp_irem, wp_ineg, wp_iand, wp_ior, wp_ixor, wp_ishl, wp_ishr, wp_getI, wp_putI, wp_getR, wp_goto, wp_goto_w, wq_if_eq, wq_if_ne, wq_if_lt, wq_if_ge, wq_if_gt, wq_if_le, wq_icmp_eq, wq_icmp_ne, wq_icmp_lt, wq_icmp_ge, wq_icmp_gt, wq_icmp_le, wp_max, wp_min, kI_inl, kR_some, kN_inl, kO_some, KT_none, KT_some, List.length_cons, List.length_nil, Nat.reduceAdd, Nat.reduceLT, Nat.reduceLeDiff, Nat.reduceMod, Nat.reduceDiv, true_and, and_true, Int.reduceLE, Int.reduceNeg, Int.reduceLT, Int.cast_ofNat_Int, Nat.zero_le, zI, Int.reduceAdd, Int.reduceSub, Int.reduceMul, not_true_eq_false, not_false_eq_true, false_implies, true_implies, i01_0, i01_1, ite_not, ↓reduceIte, zget_0, zget_1, zget_2, zget_3, zget_4, zget_5, zget_6, zget_7, zget_8, zget_9, zget_10, zset_0, zset_1, zset_2, zset_3, zset_4, zset_5, zset_6, zset_7, zset_8, zset_9, zset_10, kd_171, rf_171_0, rf_171_1, rf_171_3, rf_171_4, rf_171_5, rf_171_6, rf_171_7, rf_171_8, rf_171_10, rf_171_13, rf_171_14, rf_171_15, rf_171_16, rf_171_17, rf_171_20, rf_171_21, rf_171_27, rf_171_28, rf_171_29, rf_171_30, rf_171_31, show en < u + sz by omega, if_true]
      try (repeat (refine (and_iff_right (by omega)).trans ?_))
      try exact Iff.rfl
/-- a bus with its window within the units -/
abbrev BwM (A : Int → Int) (bu k : Int) : Prop := 0 ≤ wiM A bu k ∧ wiM A bu k ≤ 1024 ∧ (wiM A bu k = 0 ∨ (0 ≤ beM A bu k ∧ beM A bu k + wiM A bu k ≤ 1024))
def loW (A T : Int → Int) (bu k sz st : Int) : Int := if wiM A bu k = 0 then -1 else loM T sz st (beM A bu k + wiM A bu k) 1100 (rupM (beM A bu k) st)
theorem c_lowestM {sz st : Int} (hb : 0 ≤ bu ∧ bu ≤ 20) (hk : 0 ≤ k ∧ k < 2) (hs : 1 ≤ sz ∧ sz ≤ 1024) (hst : 1 ≤ st ∧ st ≤ 1024) (hw : BwM (im 172) bu k) : CallP (d + 3) 197 [.inr (some 171), .inl bu, .inl k, .inl sz, .inl st] im Q ↔ Q (some (.inl (loW (im 172) (im 181) bu k sz st))) im := by
  have h1 := fun Q => c_wideOf (d := d + 1) (im := im) (bu := bu) (k := k) (Q := Q) hb hk
  have h2 := fun Q => c_beginOf (d := d + 1) (im := im) (bu := bu) (k := k) (Q := Q) hb hk
  by_cases c : wiM (im 172) bu k = 0
  · rw [show loW (im 172) (im 181) bu k sz st = -1 from if_pos c]
    simp (disch := omega) only [en_197, wp_ireturn rk_197, pg_197_0, pg_197_11, pg_197_61, pg_197_71, cw_178, cw_191, cw_192, cw_196, wp_iload, wp_aload, wp_istore, wp_astore, wp_iinc, wp_iconst, wp_dup, wp_dup2, wp_pop, wp_iadd, wp_isub, wp_imul, wp_idiv, wp_irem, wp_ineg, wp_iand, wp_ior, wp_ixor, wp_ishl, wp_ishr, wp_getI, wp_putI, wp_getR, wp_goto, wp_goto_w, wq_if_eq, wq_if_ne, wq_if_lt, wq_if_ge, wq_if_gt, wq_if_le, wq_icmp_eq, wq_icmp_ne, wq_icmp_lt, wq_icmp_ge, wq_icmp_gt, wq_icmp_le, wp_max, wp_min, kI_inl, kR_some, kN_inl, kO_some, KT_none, KT_some, List.length_cons, List.length_nil, Nat.reduceAdd, Nat.reduceLT, Nat.reduceLeDiff, Nat.reduceMod, Nat.reduceDiv, true_and, and_true, Int.reduceLE, Int.reduceNeg, Int.reduceLT, Int.cast_ofNat_Int, Nat.zero_le, zI, Int.reduceAdd, Int.reduceSub, Int.reduceMul, not_true_eq_false, not_false_eq_true, false_implies, true_implies, i01_0, i01_1, ite_not, ↓reduceIte, zget_0, zget_1, zget_2, zget_3, zget_4, zget_5, zget_6, zget_7, zget_8, zget_9, zget_10, zset_0, zset_1, zset_2, zset_3, zset_4, zset_5, zset_6, zset_7, zset_8, zset_9, zset_10, kd_171, rf_171_0, rf_171_1, rf_171_3, rf_171_4, rf_171_5, rf_171_6, rf_171_7, rf_171_8, rf_171_10, rf_171_13, rf_171_14, rf_171_15, rf_171_16, rf_171_17, rf_171_20, rf_171_21, rf_171_27, rf_171_28, rf_171_29, rf_171_30, rf_171_31, h1, c, not_true_eq_false, if_false]
  · have hbw := hw.2.2.resolve_left c
    have hr := rupM_bd (v := beM (im 172) bu k) (s := st) hbw.1 hst.1
    have hl := l_loM (d := d + 1) (im := im) (x1 := .inl bu) (x2 := .inl k) hs (st := st) (by omega) hbw.2 1100 (rupM (beM (im 172) bu k) st) (by omega) (by omega) Q
    rw [show loW (im 172) (im 181) bu k sz st = loM (im 181) sz st (beM (im 172) bu k + wiM (im 172) bu k) 1100 (rupM (beM (im 172) bu k) st) from if_neg c]
    simp (disch := omega) only [en_197, wp_ireturn rk_197, pg_197_0, pg_197_11, pg_197_61, pg_197_71, cw_178, cw_191, cw_192, cw_196, wp_iload, wp_aload, wp_istore, wp_astore, wp_iinc, wp_iconst, wp_dup, wp_dup2, wp_pop, wp_iadd, wp_isub, wp_imul, wp_idiv, wp_irem, wp_ineg, wp_iand, wp_ior, wp_ixor, wp_ishl, wp_ishr, wp_getI, wp_putI, wp_getR, wp_goto, wp_goto_w, wq_if_eq, wq_if_ne, wq_if_lt, wq_if_ge, wq_if_gt, wq_if_le, wq_icmp_eq, wq_icmp_ne, wq_icmp_lt, wq_icmp_ge, wq_icmp_gt, wq_icmp_le, wp_max, wp_min, kI_inl, kR_some, kN_inl, kO_some, KT_none, KT_some, List.length_cons, List.length_nil, Nat.reduceAdd, Nat.reduceLT, Nat.reduceLeDiff, Nat.reduceMod, Nat.reduceDiv, true_and, and_true, Int.reduceLE, Int.reduceNeg, Int.reduceLT, Int.cast_ofNat_Int, Nat.zero_le, zI, Int.reduceAdd, Int.reduceSub, Int.reduceMul, not_true_eq_false, not_false_eq_true, false_implies, true_implies, i01_0, i01_1, ite_not, ↓reduceIte, zget_0, zget_1, zget_2, zget_3, zget_4, zget_5, zget_6, zget_7, zget_8, zget_9, zget_10, zset_0, zset_1, zset_2, zset_3, zset_4, zset_5, zset_6, zset_7, zset_8, zset_9, zset_10, kd_171, rf_171_0, rf_171_1, rf_171_3, rf_171_4, rf_171_5, rf_171_6, rf_171_7, rf_171_8, rf_171_10, rf_171_13, rf_171_14, rf_171_15, rf_171_16, rf_171_17, rf_171_20, rf_171_21, rf_171_27, rf_171_28, rf_171_29, rf_171_30, rf_171_31, h1, h2, c, not_false_eq_true, if_true, c_roundUpM]
    repeat (refine (and_iff_right (by omega)).trans ?_)
    exact hl
end MR
