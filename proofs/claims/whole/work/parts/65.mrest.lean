/-! THE REFERENCE: gaps, room, places, sums, law, numbers -/
section MW
variable {d : Nat} {im : zM} {Q : Option zV → zM → Prop} {a b v dv kd sl i j k f e bu : Int}
abbrev ibM (A : Int → Int) (b : Int) : Prop := b = -1 ∨ brM A b
theorem c_isBusM : CallP (d + 3) 240 [.inr (some 171), .inl b] im Q ↔ Q (some (.inl (if ibM (im 172) b then 1 else 0))) im := by
  by_cases c : b = -1
  · rw [if_pos (show ibM (im 172) b from Or.inl c)]
    simp (disch := omega) only [en_240, wp_zreturn rk_240, pg_240_0, pg_240_13, pg_240_17, pg_240_18, cw_146, wp_iload, wp_aload, wp_istore, wp_astore, wp_iinc, wp_iconst, wp_dup, wp_dup2, wp_pop, wp_iadd, wp_isub, wp_imul, wp_idiv, wp_irem, wp_ineg, wp_iand, wp_ior, wp_ixor, wp_ishl, wp_ishr, wp_getI, wp_putI, wp_getR, wp_goto, wp_goto_w, wq_if_eq, wq_if_ne, wq_if_lt, wq_if_ge, wq_if_gt, wq_if_le, wq_icmp_eq, wq_icmp_ne, wq_icmp_lt, wq_icmp_ge, wq_icmp_gt, wq_icmp_le, wp_max, wp_min, kI_inl, kR_some, kN_inl, kO_some, KT_none, KT_some, List.length_cons, List.length_nil, Nat.reduceAdd, Nat.reduceLT, Nat.reduceLeDiff, Nat.reduceMod, Nat.reduceDiv, true_and, and_true, Int.reduceLE, Int.reduceNeg, Int.reduceLT, Int.cast_ofNat_Int, Nat.zero_le, zI, Int.reduceAdd, Int.reduceSub, Int.reduceMul, not_true_eq_false, not_false_eq_true, false_implies, true_implies, i01_0, i01_1, ite_not, ↓reduceIte, zget_0, zget_1, zget_2, zget_3, zget_4, zget_5, zget_6, zget_7, zget_8, zget_9, zget_10, zset_0, zset_1, zset_2, zset_3, zset_4, zset_5, zset_6, zset_7, zset_8, zset_9, zset_10, kd_171, rf_171_0, rf_171_1, rf_171_3, rf_171_4, rf_171_5, rf_171_6, rf_171_7, rf_171_8, rf_171_10, rf_171_13, rf_171_14, rf_171_15, rf_171_16, rf_171_17, rf_171_20, rf_171_21, rf_171_27, rf_171_28, rf_171_29, rf_171_30, rf_171_31, c, if_true, or_true, true_and]
  · by_cases c2 : brM (im 172) b
    · rw [if_pos (show ibM (im 172) b from Or.inr c2)]
      simp (disch := omega) only [en_240, wp_zreturn rk_240, pg_240_0, pg_240_13, pg_240_17, pg_240_18, cw_146, wp_iload, wp_aload, wp_istore, wp_astore, wp_iinc, wp_iconst, wp_dup, wp_dup2, wp_pop, wp_iadd, wp_isub, wp_imul, wp_idiv, wp_irem, wp_ineg, wp_iand, wp_ior, wp_ixor, wp_ishl, wp_ishr, wp_getI, wp_putI, wp_getR, wp_goto, wp_goto_w, wq_if_eq, wq_if_ne, wq_if_lt, wq_if_ge, wq_if_gt, wq_if_le, wq_icmp_eq, wq_icmp_ne, wq_icmp_lt, wq_icmp_ge, wq_icmp_gt, wq_icmp_le, wp_max, wp_min, kI_inl, kR_some, kN_inl, kO_some, KT_none, KT_some, List.length_cons, List.length_nil, Nat.reduceAdd, Nat.reduceLT, Nat.reduceLeDiff, Nat.reduceMod, Nat.reduceDiv, true_and, and_true, Int.reduceLE, Int.reduceNeg, Int.reduceLT, Int.cast_ofNat_Int, Nat.zero_le, zI, Int.reduceAdd, Int.reduceSub, Int.reduceMul, not_true_eq_false, not_false_eq_true, false_implies, true_implies, i01_0, i01_1, ite_not, ↓reduceIte, zget_0, zget_1, zget_2, zget_3, zget_4, zget_5, zget_6, zget_7, zget_8, zget_9, zget_10, zset_0, zset_1, zset_2, zset_3, zset_4, zset_5, zset_6, zset_7, zset_8, zset_9, zset_10, kd_171, rf_171_0, rf_171_1, rf_171_3, rf_171_4, rf_171_5, rf_171_6, rf_171_7, rf_171_8, rf_171_10, rf_171_13, rf_171_14, rf_171_15, rf_171_16, rf_171_17, rf_171_20, rf_171_21, rf_171_27, rf_171_28, rf_171_29, rf_171_30, rf_171_31, c, if_false, c_brM, if_pos c2]
      try simp only [show ¬ (1 : Int) = 0 by omega, if_false, or_true, true_and]
    · rw [if_neg (show ¬ ibM (im 172) b from fun q => q.elim c c2)]
      simp (disch := omega) only [en_240, wp_zreturn rk_240, pg_240_0, pg_240_13, pg_240_17, pg_240_18, cw_146, wp_iload, wp_aload, wp_istore, wp_astore, wp_iinc, wp_iconst, wp_dup, wp_dup2, wp_pop, wp_iadd, wp_isub, wp_imul, wp_idiv, wp_irem, wp_ineg, wp_iand, wp_ior, wp_ixor, wp_ishl, wp_ishr, wp_getI, wp_putI, wp_getR, wp_goto, wp_goto_w, wq_if_eq, wq_if_ne, wq_if_lt, wq_if_ge, wq_if_gt, wq_if_le, wq_icmp_eq, wq_icmp_ne, wq_icmp_lt, wq_icmp_ge, wq_icmp_gt, wq_icmp_le, wp_max, wp_min, kI_inl, kR_some, kN_inl, kO_some, KT_none, KT_some, List.length_cons, List.length_nil, Nat.reduceAdd, Nat.reduceLT, Nat.reduceLeDiff, Nat.reduceMod, Nat.reduceDiv, true_and, and_true, Int.reduceLE, Int.reduceNeg, Int.reduceLT, Int.cast_ofNat_Int, Nat.zero_le, zI, Int.reduceAdd, Int.reduceSub, Int.reduceMul, not_true_eq_false, not_false_eq_true, false_implies, true_implies, i01_0, i01_1, ite_not, ↓reduceIte, zget_0, zget_1, zget_2, zget_3, zget_4, zget_5, zget_6, zget_7, zget_8, zget_9, zget_10, zset_0, zset_1, zset_2, zset_3, zset_4, zset_5, zset_6, zset_7, zset_8, zset_9, zset_10, kd_171, rf_171_0, rf_171_1, rf_171_3, rf_171_4, rf_171_5, rf_171_6, rf_171_7, rf_171_8, rf_171_10, rf_171_13, rf_171_14, rf_171_15, rf_171_16, rf_171_17, rf_171_20, rf_171_21, rf_171_27, rf_171_28, rf_171_29, rf_171_30, rf_171_31, c, if_false, c_brM, if_neg c2, if_true, true_or, true_and]
def bfM (b : Int) : Int := if b = -1 then 20 else b
theorem c_busFor : CallP d 241 [.inl b] im Q ↔ Q (some (.inl (bfM b))) im := by
  by_cases c : b = -1
  · simp (disch := omega) only [en_241, wp_ireturn rk_241, pg_241_0, pg_241_10, pg_241_11, wp_iload, wp_aload, wp_istore, wp_astore, wp_iinc, wp_iconst, wp_dup, wp_dup2, wp_pop, wp_iadd, wp_isub, wp_imul, wp_idiv, wp_irem, wp_ineg, wp_iand, wp_ior, wp_ixor, wp_ishl, wp_ishr, wp_getI, wp_putI, wp_getR, wp_goto, wp_goto_w, wq_if_eq, wq_if_ne, wq_if_lt, wq_if_ge, wq_if_gt, wq_if_le, wq_icmp_eq, wq_icmp_ne, wq_icmp_lt, wq_icmp_ge, wq_icmp_gt, wq_icmp_le, wp_max, wp_min, kI_inl, kR_some, kN_inl, kO_some, KT_none, KT_some, List.length_cons, List.length_nil, Nat.reduceAdd, Nat.reduceLT, Nat.reduceLeDiff, Nat.reduceMod, Nat.reduceDiv, true_and, and_true, Int.reduceLE, Int.reduceNeg, Int.reduceLT, Int.cast_ofNat_Int, Nat.zero_le, zI, Int.reduceAdd, Int.reduceSub, Int.reduceMul, not_true_eq_false, not_false_eq_true, false_implies, true_implies, i01_0, i01_1, ite_not, ↓reduceIte, zget_0, zget_1, zget_2, zget_3, zget_4, zget_5, zget_6, zget_7, zget_8, zget_9, zget_10, zset_0, zset_1, zset_2, zset_3, zset_4, zset_5, zset_6, zset_7, zset_8, zset_9, zset_10, kd_171, rf_171_0, rf_171_1, rf_171_3, rf_171_4, rf_171_5, rf_171_6, rf_171_7, rf_171_8, rf_171_10, rf_171_13, rf_171_14, rf_171_15, rf_171_16, rf_171_17, rf_171_20, rf_171_21, rf_171_27, rf_171_28, rf_171_29, rf_171_30, rf_171_31, bfM, c, not_true_eq_false, if_false, if_true]
  · simp (disch := omega) only [en_241, wp_ireturn rk_241, pg_241_0, pg_241_10, pg_241_11, wp_iload, wp_aload, wp_istore, wp_astore, wp_iinc, wp_iconst, wp_dup, wp_dup2, wp_pop, wp_iadd, wp_isub, wp_imul, wp_idiv, wp_irem, wp_ineg, wp_iand, wp_ior, wp_ixor, wp_ishl, wp_ishr, wp_getI, wp_putI, wp_getR, wp_goto, wp_goto_w, wq_if_eq, wq_if_ne, wq_if_lt, wq_if_ge, wq_if_gt, wq_if_le, wq_icmp_eq, wq_icmp_ne, wq_icmp_lt, wq_icmp_ge, wq_icmp_gt, wq_icmp_le, wp_max, wp_min, kI_inl, kR_some, kN_inl, kO_some, KT_none, KT_some, List.length_cons, List.length_nil, Nat.reduceAdd, Nat.reduceLT, Nat.reduceLeDiff, Nat.reduceMod, Nat.reduceDiv, true_and, and_true, Int.reduceLE, Int.reduceNeg, Int.reduceLT, Int.cast_ofNat_Int, Nat.zero_le, zI, Int.reduceAdd, Int.reduceSub, Int.reduceMul, not_true_eq_false, not_false_eq_true, false_implies, true_implies, i01_0, i01_1, ite_not, ↓reduceIte, zget_0, zget_1, zget_2, zget_3, zget_4, zget_5, zget_6, zget_7, zget_8, zget_9, zget_10, zset_0, zset_1, zset_2, zset_3, zset_4, zset_5, zset_6, zset_7, zset_8, zset_9, zset_10, kd_171, rf_171_0, rf_171_1, rf_171_3, rf_171_4, rf_171_5, rf_171_6, rf_171_7, rf_171_8, rf_171_10, rf_171_13, rf_171_14, rf_171_15, rf_171_16, rf_171_17, rf_171_20, rf_171_21, rf_171_27, rf_171_28, rf_171_29, rf_171_30, rf_171_31, bfM, c, not_false_eq_true, if_false, if_true]
abbrev iwM (A : Int → Int) (b k : Int) : Prop := ibM A b ∧ (0 ≤ k ∧ k ≤ 1) ∧ buOn A (bfM b)
theorem c_isBusWith : CallP (d + 4) 244 [.inr (some 171), .inl b, .inl k] im Q ↔ Q (some (.inl (if iwM (im 172) b k then 1 else 0))) im := by
  by_cases c1 : ibM (im 172) b
  · by_cases c2 : 0 ≤ k ∧ k ≤ 1
    · by_cases c3 : buOn (im 172) (bfM b)
      · rw [if_pos (show iwM (im 172) b k from ⟨c1, c2, c3⟩)]
        simp (disch := omega) only [en_244, wp_zreturn rk_244, pg_244_0, pg_244_30, pg_244_31, cw_148, cw_193, cw_240, cw_241, wp_iload, wp_aload, wp_istore, wp_astore, wp_iinc, wp_iconst, wp_dup, wp_dup2, wp_pop, wp_iadd, wp_isub, wp_imul, wp_idiv, wp_irem, wp_ineg, wp_iand, wp_ior, wp_ixor, wp_ishl, wp_ishr, wp_getI, wp_putI, wp_getR, wp_goto, wp_goto_w, wq_if_eq, wq_if_ne, wq_if_lt, wq_if_ge, wq_if_gt, wq_if_le, wq_icmp_eq, wq_icmp_ne, wq_icmp_lt, wq_icmp_ge, wq_icmp_gt, wq_icmp_le, wp_max, wp_min, kI_inl, kR_some, kN_inl, kO_some, KT_none, KT_some, List.length_cons, List.length_nil, Nat.reduceAdd, Nat.reduceLT, Nat.reduceLeDiff, Nat.reduceMod, Nat.reduceDiv, true_and, and_true, Int.reduceLE, Int.reduceNeg, Int.reduceLT, Int.cast_ofNat_Int, Nat.zero_le, zI, Int.reduceAdd, Int.reduceSub, Int.reduceMul, not_true_eq_false, not_false_eq_true, false_implies, true_implies, i01_0, i01_1, ite_not, ↓reduceIte, zget_0, zget_1, zget_2, zget_3, zget_4, zget_5, zget_6, zget_7, zget_8, zget_9, zget_10, zset_0, zset_1, zset_2, zset_3, zset_4, zset_5, zset_6, zset_7, zset_8, zset_9, zset_10, kd_171, rf_171_0, rf_171_1, rf_171_3, rf_171_4, rf_171_5, rf_171_6, rf_171_7, rf_171_8, rf_171_10, rf_171_13, rf_171_14, rf_171_15, rf_171_16, rf_171_17, rf_171_20, rf_171_21, rf_171_27, rf_171_28, rf_171_29, rf_171_30, rf_171_31, c_isBusM, if_pos c1, c_kindM, if_pos c2, c_busFor, c_isBusOnM, if_pos c3]
        try simp only [show ¬ (1 : Int) = 0 by omega, if_false, or_true, true_and]
      · rw [if_neg (show ¬ iwM (im 172) b k from fun q => c3 q.2.2)]
        simp (disch := omega) only [en_244, wp_zreturn rk_244, pg_244_0, pg_244_30, pg_244_31, cw_148, cw_193, cw_240, cw_241, wp_iload, wp_aload, wp_istore, wp_astore, wp_iinc, wp_iconst, wp_dup, wp_dup2, wp_pop, wp_iadd, wp_isub, wp_imul, wp_idiv, wp_irem, wp_ineg, wp_iand, wp_ior, wp_ixor, wp_ishl, wp_ishr, wp_getI, wp_putI, wp_getR, wp_goto, wp_goto_w, wq_if_eq, wq_if_ne, wq_if_lt, wq_if_ge, wq_if_gt, wq_if_le, wq_icmp_eq, wq_icmp_ne, wq_icmp_lt, wq_icmp_ge, wq_icmp_gt, wq_icmp_le, wp_max, wp_min, kI_inl, kR_some, kN_inl, kO_some, KT_none, KT_some, List.length_cons, List.length_nil, Nat.reduceAdd, Nat.reduceLT, Nat.reduceLeDiff, Nat.reduceMod, Nat.reduceDiv, true_and, and_true, Int.reduceLE, Int.reduceNeg, Int.reduceLT, Int.cast_ofNat_Int, Nat.zero_le, zI, Int.reduceAdd, Int.reduceSub, Int.reduceMul, not_true_eq_false, not_false_eq_true, false_implies, true_implies, i01_0, i01_1, ite_not, ↓reduceIte, zget_0, zget_1, zget_2, zget_3, zget_4, zget_5, zget_6, zget_7, zget_8, zget_9, zget_10, zset_0, zset_1, zset_2, zset_3, zset_4, zset_5, zset_6, zset_7, zset_8, zset_9, zset_10, kd_171, rf_171_0, rf_171_1, rf_171_3, rf_171_4, rf_171_5, rf_171_6, rf_171_7, rf_171_8, rf_171_10, rf_171_13, rf_171_14, rf_171_15, rf_171_16, rf_171_17, rf_171_20, rf_171_21, rf_171_27, rf_171_28, rf_171_29, rf_171_30, rf_171_31, c_isBusM, if_pos c1, c_kindM, if_pos c2, c_busFor, c_isBusOnM, if_neg c3]
        try simp only [show ¬ (1 : Int) = 0 by omega, if_false, if_true, true_or, true_and]
    · rw [if_neg (show ¬ iwM (im 172) b k from fun q => c2 q.2.1)]
      simp (disch := omega) only [en_244, wp_zreturn rk_244, pg_244_0, pg_244_30, pg_244_31, cw_148, cw_193, cw_240, cw_241, wp_iload, wp_aload, wp_istore, wp_astore, wp_iinc, wp_iconst, wp_dup, wp_dup2, wp_pop, wp_iadd, wp_isub, wp_imul, wp_idiv, wp_irem, wp_ineg, wp_iand, wp_ior, wp_ixor, wp_ishl, wp_ishr, wp_getI, wp_putI, wp_getR, wp_goto, wp_goto_w, wq_if_eq, wq_if_ne, wq_if_lt, wq_if_ge, wq_if_gt, wq_if_le, wq_icmp_eq, wq_icmp_ne, wq_icmp_lt, wq_icmp_ge, wq_icmp_gt, wq_icmp_le, wp_max, wp_min, kI_inl, kR_some, kN_inl, kO_some, KT_none, KT_some, List.length_cons, List.length_nil, Nat.reduceAdd, Nat.reduceLT, Nat.reduceLeDiff, Nat.reduceMod, Nat.reduceDiv, true_and, and_true, Int.reduceLE, Int.reduceNeg, Int.reduceLT, Int.cast_ofNat_Int, Nat.zero_le, zI, Int.reduceAdd, Int.reduceSub, Int.reduceMul, not_true_eq_false, not_false_eq_true, false_implies, true_implies, i01_0, i01_1, ite_not, ↓reduceIte, zget_0, zget_1, zget_2, zget_3, zget_4, zget_5, zget_6, zget_7, zget_8, zget_9, zget_10, zset_0, zset_1, zset_2, zset_3, zset_4, zset_5, zset_6, zset_7, zset_8, zset_9, zset_10, kd_171, rf_171_0, rf_171_1, rf_171_3, rf_171_4, rf_171_5, rf_171_6, rf_171_7, rf_171_8, rf_171_10, rf_171_13, rf_171_14, rf_171_15, rf_171_16, rf_171_17, rf_171_20, rf_171_21, rf_171_27, rf_171_28, rf_171_29, rf_171_30, rf_171_31, c_isBusM, if_pos c1, c_kindM, if_neg c2]
      try simp only [show ¬ (1 : Int) = 0 by omega, if_false, if_true, true_or, true_and]
  · rw [if_neg (show ¬ iwM (im 172) b k from fun q => c1 q.1)]
    simp (disch := omega) only [en_244, wp_zreturn rk_244, pg_244_0, pg_244_30, pg_244_31, cw_148, cw_193, cw_240, cw_241, wp_iload, wp_aload, wp_istore, wp_astore, wp_iinc, wp_iconst, wp_dup, wp_dup2, wp_pop, wp_iadd, wp_isub, wp_imul, wp_idiv, wp_irem, wp_ineg, wp_iand, wp_ior, wp_ixor, wp_ishl, wp_ishr, wp_getI, wp_putI, wp_getR, wp_goto, wp_goto_w, wq_if_eq, wq_if_ne, wq_if_lt, wq_if_ge, wq_if_gt, wq_if_le, wq_icmp_eq, wq_icmp_ne, wq_icmp_lt, wq_icmp_ge, wq_icmp_gt, wq_icmp_le, wp_max, wp_min, kI_inl, kR_some, kN_inl, kO_some, KT_none, KT_some, List.length_cons, List.length_nil, Nat.reduceAdd, Nat.reduceLT, Nat.reduceLeDiff, Nat.reduceMod, Nat.reduceDiv, true_and, and_true, Int.reduceLE, Int.reduceNeg, Int.reduceLT, Int.cast_ofNat_Int, Nat.zero_le, zI, Int.reduceAdd, Int.reduceSub, Int.reduceMul, not_true_eq_false, not_false_eq_true, false_implies, true_implies, i01_0, i01_1, ite_not, ↓reduceIte, zget_0, zget_1, zget_2, zget_3, zget_4, zget_5, zget_6, zget_7, zget_8, zget_9, zget_10, zset_0, zset_1, zset_2, zset_3, zset_4, zset_5, zset_6, zset_7, zset_8, zset_9, zset_10, kd_171, rf_171_0, rf_171_1, rf_171_3, rf_171_4, rf_171_5, rf_171_6, rf_171_7, rf_171_8, rf_171_10, rf_171_13, rf_171_14, rf_171_15, rf_171_16, rf_171_17, rf_171_20, rf_171_21, rf_171_27, rf_171_28, rf_171_29, rf_171_30, rf_171_31, c_isBusM, if_neg c1, if_true, true_or, true_and]
theorem ib_rg {A : Int → Int} (h : ibM A b) : 0 ≤ bfM b ∧ bfM b ≤ 20 := by
  unfold bfM
  split
  · omega
  · rename_i c
    have := (h.resolve_left c).1
    omega
def gaB (T : Int → Int) (bg : Int) (u : Int) : Bool := decide (T (bg + u) = 0)
theorem l_gapM (hb : 0 ≤ bu ∧ bu ≤ 20) (hk : 0 ≤ k ∧ k < 2) (hw : BwM (im 172) bu k) {x1 : zV} : ∀ (n : Nat) (u s : Int), 0 ≤ u → u + n = wiM (im 172) bu k → 0 ≤ s ∧ s ≤ u → ∀ Q, wp none (d + 2) 245 (zpg 245 29) [.inr (some 171), x1, .inl k, .inl bu, .inl s, .inl u] [] im Q ↔ Q (some (.inl (lp (cntf (gaB (im 181) (beM (im 172) bu k))) n u s))) im
  | 0, u, s, h0, h1, hs, Q => by
    have h1w := fun Q => c_wideOf (d := d) (im := im) (bu := bu) (k := k) (Q := Q) hb hk
    rw [pg_245_29]
    simp (disch := omega) only [wp_ireturn rk_245, pg_245_12, pg_245_63, pg_245_64, pg_245_73, cw_191, cw_192, cw_195, cw_241, cw_244, wp_iload, wp_aload, wp_istore, wp_astore, wp_iinc, wp_iconst, wp_dup, wp_dup2, wp_pop, wp_iadd, wp_isub, wp_imul, wp_idiv, wp_irem, wp_ineg, wp_iand, wp_ior, wp_ixor, wp_ishl, wp_ishr, wp_getI, wp_putI, wp_getR, wp_goto, wp_goto_w, wq_if_eq, wq_if_ne, wq_if_lt, wq_if_ge, wq_if_gt, wq_if_le, wq_icmp_eq, wq_icmp_ne, wq_icmp_lt, wq_icmp_ge, wq_icmp_gt, wq_icmp_le, wp_max, wp_min, kI_inl, kR_some, kN_inl, kO_some, KT_none, KT_some, List.length_cons, List.length_nil, Nat.reduceAdd, Nat.reduceLT, Nat.reduceLeDiff, Nat.reduceMod, Nat.reduceDiv, true_and, and_true, Int.reduceLE, Int.reduceNeg, Int.reduceLT, Int.cast_ofNat_Int, Nat.zero_le, zI, Int.reduceAdd, Int.reduceSub, Int.reduceMul, not_true_eq_false, not_false_eq_true, false_implies, true_implies, i01_0, i01_1, ite_not, ↓reduceIte, zget_0, zget_1, zget_2, zget_3, zget_4, zget_5, zget_6, zget_7, zget_8, zget_9, zget_10, zset_0, zset_1, zset_2, zset_3, zset_4, zset_5, zset_6, zset_7, zset_8, zset_9, zset_10, kd_171, rf_171_0, rf_171_1, rf_171_3, rf_171_4, rf_171_5, rf_171_6, rf_171_7, rf_171_8, rf_171_10, rf_171_13, rf_171_14, rf_171_15, rf_171_16, rf_171_17, rf_171_20, rf_171_21, rf_171_27, rf_171_28, rf_171_29, rf_171_30, rf_171_31, h1w, show wiM (im 172) bu k ≤ u by omega, if_true, lp]
  | n + 1, u, s, h0, h1, hs, Q => by
    have h1w := fun Q => c_wideOf (d := d) (im := im) (bu := bu) (k := k) (Q := Q) hb hk
    have h2w := fun Q => c_beginOf (d := d) (im := im) (bu := bu) (k := k) (Q := Q) hb hk
    have hbw := hw.2.2.resolve_left (by omega)
    have ih := fun s => l_gapM hb hk hw (x1 := x1) n (u + 1) s (by omega) (by omega)
    rw [pg_245_29]
    by_cases c : im 181 (beM (im 172) bu k + u) = 0
    · have ec : cntf (gaB (im 181) (beM (im 172) bu k)) u s = s + 1 := if_pos (decide_eq_true c)
      have i1 := ih (s + 1) (by omega) Q
      simp (disch := omega) only [wp_ireturn rk_245, pg_245_12, pg_245_63, pg_245_64, pg_245_73, cw_191, cw_192, cw_195, cw_241, cw_244, wp_iload, wp_aload, wp_istore, wp_astore, wp_iinc, wp_iconst, wp_dup, wp_dup2, wp_pop, wp_iadd, wp_isub, wp_imul, wp_idiv, wp_irem, wp_ineg, wp_iand, wp_ior, wp_ixor, wp_ishl, wp_ishr, wp_getI, wp_putI, wp_getR, wp_goto, wp_goto_w, wq_if_eq, wq_if_ne, wq_if_lt, wq_if_ge, wq_if_gt, wq_if_le, wq_icmp_eq, wq_icmp_ne, wq_icmp_lt, wq_icmp_ge, wq_icmp_gt, wq_icmp_le, wp_max, wp_min, kI_inl, kR_some, kN_inl, kO_some, KT_none, KT_some, List.length_cons, List.length_nil, Nat.reduceAdd, Nat.reduceLT, Nat.reduceLeDiff, Nat.reduceMod, Nat.reduceDiv, true_and, and_true, Int.reduceLE, Int.reduceNeg, Int.reduceLT, Int.cast_ofNat_Int, Nat.zero_le, zI, Int.reduceAdd, Int.reduceSub, Int.reduceMul, not_true_eq_false, not_false_eq_true, false_implies, true_implies, i01_0, i01_1, ite_not, ↓reduceIte, zget_0, zget_1, zget_2, zget_3, zget_4, zget_5, zget_6, zget_7, zget_8, zget_9, zget_10, zset_0, zset_1, zset_2, zset_3, zset_4, zset_5, zset_6, zset_7, zset_8, zset_9, zset_10, kd_171, rf_171_0, rf_171_1, rf_171_3, rf_171_4, rf_171_5, rf_171_6, rf_171_7, rf_171_8, rf_171_10, rf_171_13, rf_171_14, rf_171_15, rf_171_16, rf_171_17, rf_171_20, rf_171_21, rf_171_27, rf_171_28, rf_171_29, rf_171_30, rf_171_31, h1w, h2w, show ¬ wiM (im 172) bu k ≤ u by omega, if_false, wp_iaload kd_181, c, not_true_eq_false, lp, ec]
      repeat (refine (and_iff_right (by omega)).trans ?_)
      exact i1
    · have ec : cntf (gaB (im 181) (beM (im 172) bu k)) u s = s := if_neg (fun q => c (of_decide_eq_true q))
      have i1 := ih s (by omega) Q
      simp (disch := omega) only [wp_ireturn rk_245, pg_245_12, pg_245_63, pg_245_64, pg_245_73, cw_191, cw_192, cw_195, cw_241, cw_244, wp_iload, wp_aload, wp_istore, wp_astore, wp_iinc, wp_iconst, wp_dup, wp_dup2, wp_pop, wp_iadd, wp_isub, wp_imul, wp_idiv, wp_irem, wp_ineg, wp_iand, wp_ior, wp_ixor, wp_ishl, wp_ishr, wp_getI, wp_putI, wp_getR, wp_goto, wp_goto_w, wq_if_eq, wq_if_ne, wq_if_lt, wq_if_ge, wq_if_gt, wq_if_le, wq_icmp_eq, wq_icmp_ne, wq_icmp_lt, wq_icmp_ge, wq_icmp_gt, wq_icmp_le, wp_max, wp_min, kI_inl, kR_some, kN_inl, kO_some, KT_none, KT_some, List.length_cons, List.length_nil, Nat.reduceAdd, Nat.reduceLT, Nat.reduceLeDiff, Nat.reduceMod, Nat.reduceDiv, true_and, and_true, Int.reduceLE, Int.reduceNeg, Int.reduceLT, Int.cast_ofNat_Int, Nat.zero_le, zI, Int.reduceAdd, Int.reduceSub, Int.reduceMul, not_true_eq_false, not_false_eq_true, false_implies, true_implies, i01_0, i01_1, ite_not, ↓reduceIte, zget_0, zget_1, zget_2, zget_3, zget_4, zget_5, zget_6, zget_7, zget_8, zget_9, zget_10, zset_0, zset_1, zset_2, zset_3, zset_4, zset_5, zset_6, zset_7, zset_8, zset_9, zset_10, kd_171, rf_171_0, rf_171_1, rf_171_3, rf_171_4, rf_171_5, rf_171_6, rf_171_7, rf_171_8, rf_171_10, rf_171_13, rf_171_14, rf_171_15, rf_171_16, rf_171_17, rf_171_20, rf_171_21, rf_171_27, rf_171_28, rf_171_29, rf_171_30, rf_171_31, h1w, h2w, show ¬ wiM (im 172) bu k ≤ u by omega, if_false, wp_iaload kd_181, c, not_false_eq_true, if_true, Int.add_zero, lp, ec]
      repeat (refine (and_iff_right (by omega)).trans ?_)
      exact i1
def gaM (A T : Int → Int) (bu k : Int) : Int := lp (cntf (gaB (laT A T bu k) (beM A bu k))) (wiM A bu k).toNat 0 0
theorem c_gapM (hg : MG (im 172)) (hw : iwM (im 172) b k → FtP (im 172) (bfM b)) : CallP (d + 5) 245 [.inr (some 171), .inl b, .inl k] im Q ↔ if iwM (im 172) b k then Q (some (.inl (gaM (im 172) (im 181) (bfM b) k))) (setc im 181 (laT (im 172) (im 181) (bfM b) k)) else Q (some (.inl (-2))) im := by
  by_cases c : iwM (im 172) b k
  · have hft := hw c
    have hk : 0 ≤ k ∧ k < 2 := by have := c.2.1; omega
    have hb := ib_rg c.1
    have hlt := fun Q => (c_layTaken (d := d + 1) (im := im) (bu := bfM b) (k := k) (Q := Q) hg hk hb (hft.2 k hk.1 hk.2).2).1
    have e2 : setc im 181 (laT (im 172) (im 181) (bfM b) k) 172 = im 172 := setc_ne _ _ (by omega)
    have hl := l_gapM (d := d + 3) (im := setc im 181 (laT (im 172) (im 181) (bfM b) k)) (bu := bfM b) (k := k) hb hk (by rw [e2]; exact (hft.2 k hk.1 hk.2).1) (x1 := .inl b) (wiM (im 172) (bfM b) k).toNat 0 0 (by omega) (by rw [e2]; have := (hft.2 k hk.1 hk.2).1.1; omega) (by omega) Q
    rw [e2, setc_at] at hl
    rw [if_pos c]
    simp (disch := omega) only [en_245, wp_ireturn rk_245, pg_245_0, pg_245_12, pg_245_63, pg_245_64, pg_245_73, cw_191, cw_192, cw_195, cw_241, cw_244, wp_iload, wp_aload, wp_istore, wp_astore, wp_iinc, wp_iconst, wp_dup, wp_dup2, wp_pop, wp_iadd, wp_isub, wp_imul, wp_idiv, wp_irem, wp_ineg, wp_iand, wp_ior, wp_ixor, wp_ishl, wp_ishr, wp_getI, wp_putI, wp_getR, wp_goto, wp_goto_w, wq_if_eq, wq_if_ne, wq_if_lt, wq_if_ge, wq_if_gt, wq_if_le, wq_icmp_eq, wq_icmp_ne, wq_icmp_lt, wq_icmp_ge, wq_icmp_gt, wq_icmp_le, wp_max, wp_min, kI_inl, kR_some, kN_inl, kO_some, KT_none, KT_some, List.length_cons, List.length_nil, Nat.reduceAdd, Nat.reduceLT, Nat.reduceLeDiff, Nat.reduceMod, Nat.reduceDiv, true_and, and_true, Int.reduceLE, Int.reduceNeg, Int.reduceLT, Int.cast_ofNat_Int, Nat.zero_le, zI, Int.reduceAdd, Int.reduceSub, Int.reduceMul, not_true_eq_false, not_false_eq_true, false_implies, true_implies, i01_0, i01_1, ite_not, ↓reduceIte, zget_0, zget_1, zget_2, zget_3, zget_4, zget_5, zget_6, zget_7, zget_8, zget_9, zget_10, zset_0, zset_1, zset_2, zset_3, zset_4, zset_5, zset_6, zset_7, zset_8, zset_9, zset_10, kd_171, rf_171_0, rf_171_1, rf_171_3, rf_171_4, rf_171_5, rf_171_6, rf_171_7, rf_171_8, rf_171_10, rf_171_13, rf_171_14, rf_171_15, rf_171_16, rf_171_17, rf_171_20, rf_171_21, rf_171_27, rf_171_28, rf_171_29, rf_171_30, rf_171_31, c_isBusWith, if_pos c, c_busFor, hlt]
    try simp only [show ¬ (1 : Int) = 0 by omega, not_false_eq_true, if_true, if_false]
    exact hl
  · rw [if_neg c]
    simp (disch := omega) only [en_245, wp_ireturn rk_245, pg_245_0, pg_245_12, pg_245_63, pg_245_64, pg_245_73, cw_191, cw_192, cw_195, cw_241, cw_244, wp_iload, wp_aload, wp_istore, wp_astore, wp_iinc, wp_iconst, wp_dup, wp_dup2, wp_pop, wp_iadd, wp_isub, wp_imul, wp_idiv, wp_irem, wp_ineg, wp_iand, wp_ior, wp_ixor, wp_ishl, wp_ishr, wp_getI, wp_putI, wp_getR, wp_goto, wp_goto_w, wq_if_eq, wq_if_ne, wq_if_lt, wq_if_ge, wq_if_gt, wq_if_le, wq_icmp_eq, wq_icmp_ne, wq_icmp_lt, wq_icmp_ge, wq_icmp_gt, wq_icmp_le, wp_max, wp_min, kI_inl, kR_some, kN_inl, kO_some, KT_none, KT_some, List.length_cons, List.length_nil, Nat.reduceAdd, Nat.reduceLT, Nat.reduceLeDiff, Nat.reduceMod, Nat.reduceDiv, true_and, and_true, Int.reduceLE, Int.reduceNeg, Int.reduceLT, Int.cast_ofNat_Int, Nat.zero_le, zI, Int.reduceAdd, Int.reduceSub, Int.reduceMul, not_true_eq_false, not_false_eq_true, false_implies, true_implies, i01_0, i01_1, ite_not, ↓reduceIte, zget_0, zget_1, zget_2, zget_3, zget_4, zget_5, zget_6, zget_7, zget_8, zget_9, zget_10, zset_0, zset_1, zset_2, zset_3, zset_4, zset_5, zset_6, zset_7, zset_8, zset_9, zset_10, kd_171, rf_171_0, rf_171_1, rf_171_3, rf_171_4, rf_171_5, rf_171_6, rf_171_7, rf_171_8, rf_171_10, rf_171_13, rf_171_14, rf_171_15, rf_171_16, rf_171_17, rf_171_20, rf_171_21, rf_171_27, rf_171_28, rf_171_29, rf_171_30, rf_171_31, c_isBusWith, if_neg c, not_true_eq_false, if_false]
def roM (A T : Int → Int) (bu k : Int) : Nat → Int
  | 0 => -1
  | m + 1 => if loW A T bu k (zshl 1 (m : Nat)) (zshl 1 (m : Nat)) < 0 then roM A T bu k m else (m : Nat)
theorem l_roomM (hk : 0 ≤ k ∧ k < 2) (hb : 0 ≤ bfM b ∧ bfM b ≤ 20) (hw : BwM (im 172) (bfM b) k) : ∀ (m : Nat), m ≤ 9 → ∀ Q, wp none (d + 4) 246 (zpg 246 24) [.inr (some 171), .inl b, .inl k, .inl ((m : Int) - 1)] [] im Q ↔ Q (some (.inl (roM (im 172) (im 181) (bfM b) k m))) im
  | 0, h0, Q => by
    rw [pg_246_24]
    simp (disch := omega) only [wp_ireturn rk_246, pg_246_12, pg_246_52, cw_195, cw_197, cw_241, cw_244, wp_iload, wp_aload, wp_istore, wp_astore, wp_iinc, wp_iconst, wp_dup, wp_dup2, wp_pop, wp_iadd, wp_isub, wp_imul, wp_idiv, wp_irem, wp_ineg, wp_iand, wp_ior, wp_ixor, wp_ishl, wp_ishr, wp_getI, wp_putI, wp_getR, wp_goto, wp_goto_w, wq_if_eq, wq_if_ne, wq_if_lt, wq_if_ge, wq_if_gt, wq_if_le, wq_icmp_eq, wq_icmp_ne, wq_icmp_lt, wq_icmp_ge, wq_icmp_gt, wq_icmp_le, wp_max, wp_min, kI_inl, kR_some, kN_inl, kO_some, KT_none, KT_some, List.length_cons, List.length_nil, Nat.reduceAdd, Nat.reduceLT, Nat.reduceLeDiff, Nat.reduceMod, Nat.reduceDiv, true_and, and_true, Int.reduceLE, Int.reduceNeg, Int.reduceLT, Int.cast_ofNat_Int, Nat.zero_le, zI, Int.reduceAdd, Int.reduceSub, Int.reduceMul, not_true_eq_false, not_false_eq_true, false_implies, true_implies, i01_0, i01_1, ite_not, ↓reduceIte, zget_0, zget_1, zget_2, zget_3, zget_4, zget_5, zget_6, zget_7, zget_8, zget_9, zget_10, zset_0, zset_1, zset_2, zset_3, zset_4, zset_5, zset_6, zset_7, zset_8, zset_9, zset_10, show ((0 : Nat) : Int) - 1 < 0 by omega, if_true, roM]
    try rw [show ((0 : Nat) : Int) - 1 = -1 by omega]
  | m + 1, h0, Q => by
    have ih := l_roomM hk hb hw m (by omega) Q
    have hz := zshl_bd (e := (m : Nat)) (by omega)
    have e1 : ((m + 1 : Nat) : Int) - 1 = m := by omega
    have hlo := fun Q => c_lowestM (d := d) (im := im) (bu := bfM b) (k := k) (sz := zshl 1 (m : Nat)) (st := zshl 1 (m : Nat)) (Q := Q) hb hk (by omega) (by omega) hw
    rw [pg_246_24, e1]
    by_cases c1 : loW (im 172) (im 181) (bfM b) k (zshl 1 (m : Nat)) (zshl 1 (m : Nat)) < 0
    · simp (disch := omega) only [wp_ireturn rk_246, pg_246_12, pg_246_52, cw_195, cw_197, cw_241, cw_244, wp_iload, wp_aload, wp_istore, wp_astore, wp_iinc, wp_iconst, wp_dup, wp_dup2, wp_pop, wp_iadd, wp_isub, wp_imul, wp_idiv, wp_irem, wp_ineg, wp_iand, wp_ior, wp_ixor, wp_ishl, wp_ishr, wp_getI, wp_putI, wp_getR, wp_goto, wp_goto_w, wq_if_eq, wq_if_ne, wq_if_lt, wq_if_ge, wq_if_gt, wq_if_le, wq_icmp_eq, wq_icmp_ne, wq_icmp_lt, wq_icmp_ge, wq_icmp_gt, wq_icmp_le, wp_max, wp_min, kI_inl, kR_some, kN_inl, kO_some, KT_none, KT_some, List.length_cons, List.length_nil, Nat.reduceAdd, Nat.reduceLT, Nat.reduceLeDiff, Nat.reduceMod, Nat.reduceDiv, true_and, and_true, Int.reduceLE, Int.reduceNeg, Int.reduceLT, Int.cast_ofNat_Int, Nat.zero_le, zI, Int.reduceAdd, Int.reduceSub, Int.reduceMul, not_true_eq_false, not_false_eq_true, false_implies, true_implies, i01_0, i01_1, ite_not, ↓reduceIte, zget_0, zget_1, zget_2, zget_3, zget_4, zget_5, zget_6, zget_7, zget_8, zget_9, zget_10, zset_0, zset_1, zset_2, zset_3, zset_4, zset_5, zset_6, zset_7, zset_8, zset_9, zset_10, kd_171, rf_171_0, rf_171_1, rf_171_3, rf_171_4, rf_171_5, rf_171_6, rf_171_7, rf_171_8, rf_171_10, rf_171_13, rf_171_14, rf_171_15, rf_171_16, rf_171_17, rf_171_20, rf_171_21, rf_171_27, rf_171_28, rf_171_29, rf_171_30, rf_171_31, show ¬ (m : Int) < 0 by omega, if_false, c_busFor, hlo, show ¬ 0 ≤ loW (im 172) (im 181) (bfM b) k (zshl 1 (m : Nat)) (zshl 1 (m : Nat)) by omega, c1, if_true, roM]
      rw [show (m : Int) + -1 = (m : Int) - 1 by omega]
      repeat (refine (and_iff_right (by omega)).trans ?_)
      exact ih
    · simp (disch := omega) only [wp_ireturn rk_246, pg_246_12, pg_246_52, cw_195, cw_197, cw_241, cw_244, wp_iload, wp_aload, wp_istore, wp_astore, wp_iinc, wp_iconst, wp_dup, wp_dup2, wp_pop, wp_iadd, wp_isub, wp_imul, wp_idiv, wp_irem, wp_ineg, wp_iand, wp_ior, wp_ixor, wp_ishl, wp_ishr, wp_getI, wp_putI, wp_getR, wp_goto, wp_goto_w, wq_if_eq, wq_if_ne, wq_if_lt, wq_if_ge, wq_if_gt, wq_if_le, wq_icmp_eq, wq_icmp_ne, wq_icmp_lt, wq_icmp_ge, wq_icmp_gt, wq_icmp_le, wp_max, wp_min, kI_inl, kR_some, kN_inl, kO_some, KT_none, KT_some, List.length_cons, List.length_nil, Nat.reduceAdd, Nat.reduceLT, Nat.reduceLeDiff, Nat.reduceMod, Nat.reduceDiv, true_and, and_true, Int.reduceLE, Int.reduceNeg, Int.reduceLT, Int.cast_ofNat_Int, Nat.zero_le, zI, Int.reduceAdd, Int.reduceSub, Int.reduceMul, not_true_eq_false, not_false_eq_true, false_implies, true_implies, i01_0, i01_1, ite_not, ↓reduceIte, zget_0, zget_1, zget_2, zget_3, zget_4, zget_5, zget_6, zget_7, zget_8, zget_9, zget_10, zset_0, zset_1, zset_2, zset_3, zset_4, zset_5, zset_6, zset_7, zset_8, zset_9, zset_10, kd_171, rf_171_0, rf_171_1, rf_171_3, rf_171_4, rf_171_5, rf_171_6, rf_171_7, rf_171_8, rf_171_10, rf_171_13, rf_171_14, rf_171_15, rf_171_16, rf_171_17, rf_171_20, rf_171_21, rf_171_27, rf_171_28, rf_171_29, rf_171_30, rf_171_31, show ¬ (m : Int) < 0 by omega, if_false, c_busFor, hlo, show 0 ≤ loW (im 172) (im 181) (bfM b) k (zshl 1 (m : Nat)) (zshl 1 (m : Nat)) by omega, c1, if_true, roM]
theorem c_roomM (hg : MG (im 172)) (hw : iwM (im 172) b k → FtP (im 172) (bfM b)) : CallP (d + 5) 246 [.inr (some 171), .inl b, .inl k] im Q ↔ if iwM (im 172) b k then Q (some (.inl (roM (im 172) (laT (im 172) (im 181) (bfM b) k) (bfM b) k 9))) (setc im 181 (laT (im 172) (im 181) (bfM b) k)) else Q (some (.inl (-2))) im := by
  by_cases c : iwM (im 172) b k
  · have hft := hw c
    have hk : 0 ≤ k ∧ k < 2 := by have := c.2.1; omega
    have hb := ib_rg c.1
    have hlt := fun Q => (c_layTaken (d := d + 1) (im := im) (bu := bfM b) (k := k) (Q := Q) hg hk hb (hft.2 k hk.1 hk.2).2).1
    have e2 : setc im 181 (laT (im 172) (im 181) (bfM b) k) 172 = im 172 := setc_ne _ _ (by omega)
    have hl := l_roomM (d := d + 1) (im := setc im 181 (laT (im 172) (im 181) (bfM b) k)) (b := b) (k := k) hk hb (by rw [e2]; exact (hft.2 k hk.1 hk.2).1) 9 (by omega) Q
    rw [e2, setc_at] at hl
    rw [if_pos c]
    simp (disch := omega) only [en_246, wp_ireturn rk_246, pg_246_0, pg_246_12, pg_246_52, cw_195, cw_197, cw_241, cw_244, wp_iload, wp_aload, wp_istore, wp_astore, wp_iinc, wp_iconst, wp_dup, wp_dup2, wp_pop, wp_iadd, wp_isub, wp_imul, wp_idiv, wp_irem, wp_ineg, wp_iand, wp_ior, wp_ixor, wp_ishl, wp_ishr, wp_getI, wp_putI, wp_getR, wp_goto, wp_goto_w, wq_if_eq, wq_if_ne, wq_if_lt, wq_if_ge, wq_if_gt, wq_if_le, wq_icmp_eq, wq_icmp_ne, wq_icmp_lt, wq_icmp_ge, wq_icmp_gt, wq_icmp_le, wp_max, wp_min, kI_inl, kR_some, kN_inl, kO_some, KT_none, KT_some, List.length_cons, List.length_nil, Nat.reduceAdd, Nat.reduceLT, Nat.reduceLeDiff, Nat.reduceMod, Nat.reduceDiv, true_and, and_true, Int.reduceLE, Int.reduceNeg, Int.reduceLT, Int.cast_ofNat_Int, Nat.zero_le, zI, Int.reduceAdd, Int.reduceSub, Int.reduceMul, not_true_eq_false, not_false_eq_true, false_implies, true_implies, i01_0, i01_1, ite_not, ↓reduceIte, zget_0, zget_1, zget_2, zget_3, zget_4, zget_5, zget_6, zget_7, zget_8, zget_9, zget_10, zset_0, zset_1, zset_2, zset_3, zset_4, zset_5, zset_6, zset_7, zset_8, zset_9, zset_10, kd_171, rf_171_0, rf_171_1, rf_171_3, rf_171_4, rf_171_5, rf_171_6, rf_171_7, rf_171_8, rf_171_10, rf_171_13, rf_171_14, rf_171_15, rf_171_16, rf_171_17, rf_171_20, rf_171_21, rf_171_27, rf_171_28, rf_171_29, rf_171_30, rf_171_31, c_isBusWith, if_pos c, c_busFor, hlt]
    try simp only [show ¬ (1 : Int) = 0 by omega, not_false_eq_true, if_true, if_false]
    exact hl
  · rw [if_neg c]
    simp (disch := omega) only [en_246, wp_ireturn rk_246, pg_246_0, pg_246_12, pg_246_52, cw_195, cw_197, cw_241, cw_244, wp_iload, wp_aload, wp_istore, wp_astore, wp_iinc, wp_iconst, wp_dup, wp_dup2, wp_pop, wp_iadd, wp_isub, wp_imul, wp_idiv, wp_irem, wp_ineg, wp_iand, wp_ior, wp_ixor, wp_ishl, wp_ishr, wp_getI, wp_putI, wp_getR, wp_goto, wp_goto_w, wq_if_eq, wq_if_ne, wq_if_lt, wq_if_ge, wq_if_gt, wq_if_le, wq_icmp_eq, wq_icmp_ne, wq_icmp_lt, wq_icmp_ge, wq_icmp_gt, wq_icmp_le, wp_max, wp_min, kI_inl, kR_some, kN_inl, kO_some, KT_none, KT_some, List.length_cons, List.length_nil, Nat.reduceAdd, Nat.reduceLT, Nat.reduceLeDiff, Nat.reduceMod, Nat.reduceDiv, true_and, and_true, Int.reduceLE, Int.reduceNeg, Int.reduceLT, Int.cast_ofNat_Int, Nat.zero_le, zI, Int.reduceAdd, Int.reduceSub, Int.reduceMul, not_true_eq_false, not_false_eq_true, false_implies, true_implies, i01_0, i01_1, ite_not, ↓reduceIte, zget_0, zget_1, zget_2, zget_3, zget_4, zget_5, zget_6, zget_7, zget_8, zget_9, zget_10, zset_0, zset_1, zset_2, zset_3, zset_4, zset_5, zset_6, zset_7, zset_8, zset_9, zset_10, kd_171, rf_171_0, rf_171_1, rf_171_3, rf_171_4, rf_171_5, rf_171_6, rf_171_7, rf_171_8, rf_171_10, rf_171_13, rf_171_14, rf_171_15, rf_171_16, rf_171_17, rf_171_20, rf_171_21, rf_171_27, rf_171_28, rf_171_29, rf_171_30, rf_171_31, c_isBusWith, if_neg c, not_true_eq_false, if_false]
/-- how often one more fits -/
def flN (A : Int → Int) (bu k sz : Int) : Nat → Int → (Int → Int) → Int × (Int → Int)
  | 0, n, T => (n, T)
  | m + 1, n, T => if loW A T bu k sz sz < 0 then (n, T) else flN A bu k sz m (n + 1) (mkT T (loW A T bu k sz sz) sz 1)
/-- units of a bus that are free -/
def frN (T : Int → Int) : Int := lp (cntf (fun u => decide (T u ≤ 0))) 1024 0 0
theorem ff_none {p : Int → Bool} : ∀ (n : Nat) (i : Int), 0 ≤ i → ff p n i = -1 → ∀ j, i ≤ j → j < i + n → p j = false
  | 0, i, h0, h, j, h1, h2 => by omega
  | n + 1, i, h0, h, j, h1, h2 => by
    simp only [ff] at h
    split at h
    · omega
    · rename_i hp
      by_cases c : j = i
      · rw [c]
        exact Bool.eq_false_iff.mpr hp
      · exact ff_none n (i + 1) (by omega) h j (by omega) (by omega)
theorem loM_free {T : Int → Int} {sz st en : Int} (hst : 1 ≤ st) : ∀ (n : Nat) (u : Int), 0 ≤ u → loM T sz st en n u = -1 ∨ frT T (loM T sz st en n u) sz
  | 0, u, h => Or.inl rfl
  | n + 1, u, h => by
    simp only [loM]
    split
    · split
      · rename_i c
        exact Or.inr c
      · exact loM_free hst n (u + st) (by omega)
    · exact Or.inl rfl
theorem cnt_lt {p q : Int → Bool} : ∀ (n : Nat) (i s : Int), (∀ j, i ≤ j → j < i + n → q j = true → p j = true) → lp (cntf q) n i s ≤ lp (cntf p) n i s
  | 0, i, s, h => Int.le_refl _
  | n + 1, i, s, h => by
    have mono : ∀ (m : Nat) (i s t : Int), s ≤ t → lp (cntf q) m i s ≤ lp (cntf q) m i t := by
      intro m
      induction m with
      | zero => intro i s t h; exact h
      | succ m ih =>
        intro i s t h
        simp only [lp]
        refine ih _ _ _ ?_
        unfold cntf
        split <;> omega
    have ih := cnt_lt (p := p) (q := q) n (i + 1) (cntf p i s) (fun j h1 h2 h3 => h j (by omega) (by omega) h3)
    simp only [lp]
    refine Int.le_trans (mono n (i + 1) (cntf q i s) (cntf p i s) ?_) ih
    unfold cntf
    by_cases c : q i = true
    · rw [if_pos c, if_pos (h i (by omega) (by omega) c)]
      omega
    · rw [if_neg c]
      split <;> omega
theorem cnt_drop {p q : Int → Bool} {m : Int} (hp : p m = true) (hq : q m = false) : ∀ (n : Nat) (i s : Int), i ≤ m → m < i + n → (∀ j, i ≤ j → j < i + n → q j = true → p j = true) → lp (cntf q) n i s + 1 ≤ lp (cntf p) n i s
  | 0, i, s, h0, h1, h => by omega
  | n + 1, i, s, h0, h1, h => by
    have sh : ∀ (m : Nat) (i s : Int), lp (cntf q) m i (s + 1) = lp (cntf q) m i s + 1 := by
      intro m
      induction m with
      | zero => intro i s; rfl
      | succ m ih =>
        intro i s
        simp only [lp]
        have e : cntf q i (s + 1) = cntf q i s + 1 := by
          unfold cntf
          split <;> omega
        rw [e, ih]
    by_cases c : i = m
    · subst c
      have := cnt_lt (p := p) (q := q) n (i + 1) (s + 1) (fun j h1 h2 h3 => h j (by omega) (by omega) h3)
      simp only [lp]
      have e1 : cntf p i s = s + 1 := if_pos hp
      have e2 : cntf q i s = s := by unfold cntf; rw [hq]; rfl
      rw [e1, e2]
      have := sh n (i + 1) s
      omega
    · have ih := cnt_drop hp hq n (i + 1) (cntf p i s) (by omega) (by omega) (fun j h1 h2 h3 => h j (by omega) (by omega) h3)
      simp only [lp]
      have mono : ∀ (m : Nat) (i s t : Int), s ≤ t → lp (cntf q) m i s ≤ lp (cntf q) m i t := by
        intro m
        induction m with
        | zero => intro i s t h; exact h
        | succ m ih =>
          intro i s t h
          simp only [lp]
          refine ih _ _ _ ?_
          unfold cntf
          split <;> omega
      have h5 : cntf q i s ≤ cntf p i s := by
        unfold cntf
        by_cases c2 : q i = true
        · rw [if_pos c2, if_pos (h i (by omega) (by omega) c2)]
          omega
        · rw [if_neg c2]
          split <;> omega
      have := mono n (i + 1) _ _ h5
      omega
theorem cnt_bd {p : Int → Bool} : ∀ (n : Nat) (i s : Int), s ≤ lp (cntf p) n i s ∧ lp (cntf p) n i s ≤ s + n
  | 0, i, s => by simp only [lp]; omega
  | n + 1, i, s => by
    have := cnt_bd (p := p) n (i + 1) (cntf p i s)
    have e : s ≤ cntf p i s ∧ cntf p i s ≤ s + 1 := by
      unfold cntf
      split <;> omega
    simp only [lp]
    omega
theorem frT_no {T : Int → Int} {u sz : Int} (h : frT T u sz) (hu : 0 ≤ u) (hs : 0 ≤ sz) : ∀ j, u ≤ j → j < u + sz → T j ≤ 0 := by
  intro j h1 h2
  have := ff_none sz.toNat u hu h j h1 (by omega)
  have := of_decide_eq_false this
  omega
theorem TkB_free {T : Int → Int} {w sz m : Int} (h : TkB T m) (hm : 1 ≤ m) (hf : frT T w sz) (hw : 0 ≤ w) (hs : 0 ≤ sz) : TkB (mkT T w sz 1) m := by
  intro u h0 h1
  have := h u h0 h1
  unfold mkT
  split
  · rename_i c
    have := frT_no hf hw hs u c.1 c.2
    omega
  · exact this
theorem frN_mk {T : Int → Int} {w sz : Int} (hf : frT T w sz) (hw : 0 ≤ w) (hs : 1 ≤ sz) (h : w + sz ≤ 1024) : frN (mkT T w sz 1) + 1 ≤ frN T + (if T w = 0 then 0 else 1) := by
  have hT := frT_no hf hw (by omega) w (by omega) (by omega)
  split
  · rename_i c
    have := cnt_drop (p := fun u => decide (T u ≤ 0)) (q := fun u => decide (mkT T w sz 1 u ≤ 0)) (m := w) (decide_eq_true hT) (decide_eq_false (by unfold mkT; rw [if_pos (by omega)]; omega)) 1024 0 0 (by omega) (by omega) (fun j _ _ hq => by
      have hq := of_decide_eq_true hq
      refine decide_eq_true ?_
      unfold mkT at hq
      split at hq <;> omega)
    unfold frN
    omega
  · have := cnt_lt (p := fun u => decide (T u ≤ 0)) (q := fun u => decide (mkT T w sz 1 u ≤ 0)) 1024 0 0 (fun j _ _ hq => by
      have hq := of_decide_eq_true hq
      refine decide_eq_true ?_
      unfold mkT at hq
      split at hq <;> omega)
    unfold frN
    omega
end MW
