/-! THE REFERENCE: where one fits; numbers; starting -/
section MF
variable {d : Nat} {im : zM} {Q : Option zV → zM → Prop} {a b v dv kd sl i j k f e bu : Int}
def noF (A W : Int → Int) (dv k : Int) (a s : Int) : Int := if A (23 * dv + (6 + a)) ≠ k ∨ 0 ≤ W a then s else if s < 0 ∨ A (23 * dv + (9 + s)) < A (23 * dv + (9 + a)) then a else s
def noM (A W : Int → Int) (dv k : Int) : Int := lp (noF A W dv k) (A (23 * dv + 5)).toNat 0 (-1)
theorem noM_cases {A W : Int → Int} (hg : MG A) (hd : 0 ≤ dv ∧ dv < 20) : noM A W dv k = -1 ∨ (0 ≤ noM A W dv k ∧ noM A W dv k < A (23 * dv + 5) ∧ A (23 * dv + (6 + noM A W dv k)) = k ∧ W (noM A W dv k) < 0) := by
  have hm := MG_many hg hd
  exact lp_ind (noF A W dv k) (fun s => s = -1 ∨ (0 ≤ s ∧ s < A (23 * dv + 5) ∧ A (23 * dv + (6 + s)) = k ∧ W s < 0)) _ 0 (-1) (Or.inl rfl) (fun j s h0 h1 hs => by
    unfold noF
    split
    · exact hs
    · rename_i h2
      split
      · exact Or.inr ⟨h0, by omega, by refine Decidable.byContradiction fun q => h2 (Or.inl q), by omega⟩
      · exact hs)
theorem l_no (hg : MG (im 172)) (hd : 0 ≤ dv ∧ dv < 20) : ∀ (n : Nat) (a s : Int), 0 ≤ a → a + n = ((im 172 (23 * dv + 5)).toNat : Nat) → -1 ≤ s ∧ s ≤ 2 → ∀ Q, wp none (d + 1) 198 (zpg 198 5) [.inr (some 171), .inl dv, .inl k, .inl s, .inl a] [] im Q ↔ Q (some (.inl (lp (noF (im 172) (im 182) dv k) n a s))) im
  | 0, a, s, h0, h1, hs, Q => by
    have hm := MG_many hg hd
    rw [pg_198_5]
    simp (disch := omega) only [wp_ireturn rk_198, pg_198_43, pg_198_69, pg_198_72, pg_198_78, cw_142, wp_iload, wp_aload, wp_istore, wp_astore, wp_iinc, wp_iconst, wp_dup, wp_dup2, wp_pop, wp_iadd, wp_isub, wp_imul, wp_idiv, wp_irem, wp_ineg, wp_iand, wp_ior, wp_ixor, wp_ishl, wp_ishr, wp_getI, wp_putI, wp_getR, wp_goto, wp_goto_w, wq_if_eq, wq_if_ne, wq_if_lt, wq_if_ge, wq_if_gt, wq_if_le, wq_icmp_eq, wq_icmp_ne, wq_icmp_lt, wq_icmp_ge, wq_icmp_gt, wq_icmp_le, wp_max, wp_min, kI_inl, kR_some, kN_inl, kO_some, KT_none, KT_some, List.length_cons, List.length_nil, Nat.reduceAdd, Nat.reduceLT, Nat.reduceLeDiff, Nat.reduceMod, Nat.reduceDiv, true_and, and_true, Int.reduceLE, Int.reduceNeg, Int.reduceLT, Int.cast_ofNat_Int, Nat.zero_le, zI, Int.reduceAdd, Int.reduceSub, Int.reduceMul, not_true_eq_false, not_false_eq_true, false_implies, true_implies, i01_0, i01_1, ite_not, ↓reduceIte, zget_0, zget_1, zget_2, zget_3, zget_4, zget_5, zget_6, zget_7, zget_8, zget_9, zget_10, zset_0, zset_1, zset_2, zset_3, zset_4, zset_5, zset_6, zset_7, zset_8, zset_9, zset_10, kd_171, rf_171_0, rf_171_1, rf_171_3, rf_171_4, rf_171_5, rf_171_6, rf_171_7, rf_171_8, rf_171_10, rf_171_13, rf_171_14, rf_171_15, rf_171_16, rf_171_17, rf_171_20, rf_171_21, rf_171_27, rf_171_28, rf_171_29, rf_171_30, rf_171_31, c_of, show im 172 (23 * dv + 5) ≤ a by omega, if_true, lp]
  | n + 1, a, s, h0, h1, hs, Q => by
    have hm := MG_many hg hd
    have ih := l_no hg hd n (a + 1)
    rw [pg_198_5]
    by_cases c : im 172 (23 * dv + (6 + a)) = k
    · by_cases c2 : 0 ≤ im 182 a
      · have ec : noF (im 172) (im 182) dv k a s = s := if_pos (Or.inr c2)
        simp (disch := omega) only [wp_ireturn rk_198, pg_198_43, pg_198_69, pg_198_72, pg_198_78, cw_142, wp_iload, wp_aload, wp_istore, wp_astore, wp_iinc, wp_iconst, wp_dup, wp_dup2, wp_pop, wp_iadd, wp_isub, wp_imul, wp_idiv, wp_irem, wp_ineg, wp_iand, wp_ior, wp_ixor, wp_ishl, wp_ishr, wp_getI, wp_putI, wp_getR, wp_goto, wp_goto_w, wq_if_eq, wq_if_ne, wq_if_lt, wq_if_ge, wq_if_gt, wq_if_le, wq_icmp_eq, wq_icmp_ne, wq_icmp_lt, wq_icmp_ge, wq_icmp_gt, wq_icmp_le, wp_max, wp_min, kI_inl, kR_some, kN_inl, kO_some, KT_none, KT_some, List.length_cons, List.length_nil, Nat.reduceAdd, Nat.reduceLT, Nat.reduceLeDiff, Nat.reduceMod, Nat.reduceDiv, true_and, and_true, Int.reduceLE, Int.reduceNeg, Int.reduceLT, Int.cast_ofNat_Int, Nat.zero_le, zI, Int.reduceAdd, Int.reduceSub, Int.reduceMul, not_true_eq_false, not_false_eq_true, false_implies, true_implies, i01_0, i01_1, ite_not, ↓reduceIte, zget_0, zget_1, zget_2, zget_3, zget_4, zget_5, zget_6, zget_7, zget_8, zget_9, zget_10, zset_0, zset_1, zset_2, zset_3, zset_4, zset_5, zset_6, zset_7, zset_8, zset_9, zset_10, kd_171, rf_171_0, rf_171_1, rf_171_3, rf_171_4, rf_171_5, rf_171_6, rf_171_7, rf_171_8, rf_171_10, rf_171_13, rf_171_14, rf_171_15, rf_171_16, rf_171_17, rf_171_20, rf_171_21, rf_171_27, rf_171_28, rf_171_29, rf_171_30, rf_171_31, wp_iaload kd_182, c_of, show ¬ im 172 (23 * dv + 5) ≤ a by omega, if_false, c, not_true_eq_false, show ¬ im 182 a < 0 by omega, ih, lp, ec]
        try (repeat (refine (and_iff_right (by omega)).trans ?_))
        try exact Iff.rfl
      · by_cases c3 : s < 0
        · have ec : noF (im 172) (im 182) dv k a s = a := by
            unfold noF
            rw [if_neg (by omega), if_pos (Or.inl c3)]
          simp (disch := omega) only [wp_ireturn rk_198, pg_198_43, pg_198_69, pg_198_72, pg_198_78, cw_142, wp_iload, wp_aload, wp_istore, wp_astore, wp_iinc, wp_iconst, wp_dup, wp_dup2, wp_pop, wp_iadd, wp_isub, wp_imul, wp_idiv, wp_irem, wp_ineg, wp_iand, wp_ior, wp_ixor, wp_ishl, wp_ishr, wp_getI, wp_putI, wp_getR, wp_goto, wp_goto_w, wq_if_eq, wq_if_ne, wq_if_lt, wq_if_ge, wq_if_gt, wq_if_le, wq_icmp_eq, wq_icmp_ne, wq_icmp_lt, wq_icmp_ge, wq_icmp_gt, wq_icmp_le, wp_max, wp_min, kI_inl, kR_some, kN_inl, kO_some, KT_none, KT_some, List.length_cons, List.length_nil, Nat.reduceAdd, Nat.reduceLT, Nat.reduceLeDiff, Nat.reduceMod, Nat.reduceDiv, true_and, and_true, Int.reduceLE, Int.reduceNeg, Int.reduceLT, Int.cast_ofNat_Int, Nat.zero_le, zI, Int.reduceAdd, Int.reduceSub, Int.reduceMul, not_true_eq_false, not_false_eq_true, false_implies, true_implies, i01_0, i01_1, ite_not, ↓reduceIte, zget_0, zget_1, zget_2, zget_3, zget_4, zget_5, zget_6, zget_7, zget_8, zget_9, zget_10, zset_0, zset_1, zset_2, zset_3, zset_4, zset_5, zset_6, zset_7, zset_8, zset_9, zset_10, kd_171, rf_171_0, rf_171_1, rf_171_3, rf_171_4, rf_171_5, rf_171_6, rf_171_7, rf_171_8, rf_171_10, rf_171_13, rf_171_14, rf_171_15, rf_171_16, rf_171_17, rf_171_20, rf_171_21, rf_171_27, rf_171_28, rf_171_29, rf_171_30, rf_171_31, wp_iaload kd_182, c_of, show ¬ im 172 (23 * dv + 5) ≤ a by omega, if_false, c, not_true_eq_false, show im 182 a < 0 by omega, if_true, c3, ih, lp, ec]
          try (repeat (refine (and_iff_right (by omega)).trans ?_))
          try exact Iff.rfl
        · by_cases c4 : im 172 (23 * dv + (9 + s)) < im 172 (23 * dv + (9 + a))
          · have ec : noF (im 172) (im 182) dv k a s = a := by
              unfold noF
              rw [if_neg (by omega), if_pos (Or.inr c4)]
            simp (disch := omega) only [wp_ireturn rk_198, pg_198_43, pg_198_69, pg_198_72, pg_198_78, cw_142, wp_iload, wp_aload, wp_istore, wp_astore, wp_iinc, wp_iconst, wp_dup, wp_dup2, wp_pop, wp_iadd, wp_isub, wp_imul, wp_idiv, wp_irem, wp_ineg, wp_iand, wp_ior, wp_ixor, wp_ishl, wp_ishr, wp_getI, wp_putI, wp_getR, wp_goto, wp_goto_w, wq_if_eq, wq_if_ne, wq_if_lt, wq_if_ge, wq_if_gt, wq_if_le, wq_icmp_eq, wq_icmp_ne, wq_icmp_lt, wq_icmp_ge, wq_icmp_gt, wq_icmp_le, wp_max, wp_min, kI_inl, kR_some, kN_inl, kO_some, KT_none, KT_some, List.length_cons, List.length_nil, Nat.reduceAdd, Nat.reduceLT, Nat.reduceLeDiff, Nat.reduceMod, Nat.reduceDiv, true_and, and_true, Int.reduceLE, Int.reduceNeg, Int.reduceLT, Int.cast_ofNat_Int, Nat.zero_le, zI, Int.reduceAdd, Int.reduceSub, Int.reduceMul, not_true_eq_false, not_false_eq_true, false_implies, true_implies, i01_0, i01_1, ite_not, ↓reduceIte, zget_0, zget_1, zget_2, zget_3, zget_4, zget_5, zget_6, zget_7, zget_8, zget_9, zget_10, zset_0, zset_1, zset_2, zset_3, zset_4, zset_5, zset_6, zset_7, zset_8, zset_9, zset_10, kd_171, rf_171_0, rf_171_1, rf_171_3, rf_171_4, rf_171_5, rf_171_6, rf_171_7, rf_171_8, rf_171_10, rf_171_13, rf_171_14, rf_171_15, rf_171_16, rf_171_17, rf_171_20, rf_171_21, rf_171_27, rf_171_28, rf_171_29, rf_171_30, rf_171_31, wp_iaload kd_182, c_of, show ¬ im 172 (23 * dv + 5) ≤ a by omega, if_false, c, not_true_eq_false, show im 182 a < 0 by omega, if_true, c3, show ¬ im 172 (23 * dv + (9 + a)) ≤ im 172 (23 * dv + (9 + s)) by omega, ih, lp, ec]
            try (repeat (refine (and_iff_right (by omega)).trans ?_))
            try exact Iff.rfl
          · have ec : noF (im 172) (im 182) dv k a s = s := by
              unfold noF
              rw [if_neg (by omega), if_neg (by omega)]
            simp (disch := omega) only [wp_ireturn rk_198, pg_198_43, pg_198_69, pg_198_72, pg_198_78, cw_142, wp_iload, wp_aload, wp_istore, wp_astore, wp_iinc, wp_iconst, wp_dup, wp_dup2, wp_pop, wp_iadd, wp_isub, wp_imul, wp_idiv, wp_irem, wp_ineg, wp_iand, wp_ior, wp_ixor, wp_ishl, wp_ishr, wp_getI, wp_putI, wp_getR, wp_goto, wp_goto_w, wq_if_eq, wq_if_ne, wq_if_lt, wq_if_ge, wq_if_gt, wq_if_le, wq_icmp_eq, wq_icmp_ne, wq_icmp_lt, wq_icmp_ge, wq_icmp_gt, wq_icmp_le, wp_max, wp_min, kI_inl, kR_some, kN_inl, kO_some, KT_none, KT_some, List.length_cons, List.length_nil, Nat.reduceAdd, Nat.reduceLT, Nat.reduceLeDiff, Nat.reduceMod, Nat.reduceDiv, true_and, and_true, Int.reduceLE, Int.reduceNeg, Int.reduceLT, Int.cast_ofNat_Int, Nat.zero_le, zI, Int.reduceAdd, Int.reduceSub, Int.reduceMul, not_true_eq_false, not_false_eq_true, false_implies, true_implies, i01_0, i01_1, ite_not, ↓reduceIte, zget_0, zget_1, zget_2, zget_3, zget_4, zget_5, zget_6, zget_7, zget_8, zget_9, zget_10, zset_0, zset_1, zset_2, zset_3, zset_4, zset_5, zset_6, zset_7, zset_8, zset_9, zset_10, kd_171, rf_171_0, rf_171_1, rf_171_3, rf_171_4, rf_171_5, rf_171_6, rf_171_7, rf_171_8, rf_171_10, rf_171_13, rf_171_14, rf_171_15, rf_171_16, rf_171_17, rf_171_20, rf_171_21, rf_171_27, rf_171_28, rf_171_29, rf_171_30, rf_171_31, wp_iaload kd_182, c_of, show ¬ im 172 (23 * dv + 5) ≤ a by omega, if_false, c, not_true_eq_false, show im 182 a < 0 by omega, if_true, c3, show im 172 (23 * dv + (9 + a)) ≤ im 172 (23 * dv + (9 + s)) by omega, ih, lp, ec]
            try (repeat (refine (and_iff_right (by omega)).trans ?_))
            try exact Iff.rfl
    · have ec : noF (im 172) (im 182) dv k a s = s := if_pos (Or.inl c)
      simp (disch := omega) only [wp_ireturn rk_198, pg_198_43, pg_198_69, pg_198_72, pg_198_78, cw_142, wp_iload, wp_aload, wp_istore, wp_astore, wp_iinc, wp_iconst, wp_dup, wp_dup2, wp_pop, wp_iadd, wp_isub, wp_imul, wp_idiv, wp_irem, wp_ineg, wp_iand, wp_ior, wp_ixor, wp_ishl, wp_ishr, wp_getI, wp_putI, wp_getR, wp_goto, wp_goto_w, wq_if_eq, wq_if_ne, wq_if_lt, wq_if_ge, wq_if_gt, wq_if_le, wq_icmp_eq, wq_icmp_ne, wq_icmp_lt, wq_icmp_ge, wq_icmp_gt, wq_icmp_le, wp_max, wp_min, kI_inl, kR_some, kN_inl, kO_some, KT_none, KT_some, List.length_cons, List.length_nil, Nat.reduceAdd, Nat.reduceLT, Nat.reduceLeDiff, Nat.reduceMod, Nat.reduceDiv, true_and, and_true, Int.reduceLE, Int.reduceNeg, Int.reduceLT, Int.cast_ofNat_Int, Nat.zero_le, zI, Int.reduceAdd, Int.reduceSub, Int.reduceMul, not_true_eq_false, not_false_eq_true, false_implies, true_implies, i01_0, i01_1, ite_not, ↓reduceIte, zget_0, zget_1, zget_2, zget_3, zget_4, zget_5, zget_6, zget_7, zget_8, zget_9, zget_10, zset_0, zset_1, zset_2, zset_3, zset_4, zset_5, zset_6, zset_7, zset_8, zset_9, zset_10, kd_171, rf_171_0, rf_171_1, rf_171_3, rf_171_4, rf_171_5, rf_171_6, rf_171_7, rf_171_8, rf_171_10, rf_171_13, rf_171_14, rf_171_15, rf_171_16, rf_171_17, rf_171_20, rf_171_21, rf_171_27, rf_171_28, rf_171_29, rf_171_30, rf_171_31, wp_iaload kd_182, c_of, show ¬ im 172 (23 * dv + 5) ≤ a by omega, if_false, c, not_false_eq_true, if_true, ih, lp, ec]
      try (repeat (refine (and_iff_right (by omega)).trans ?_))
      try exact Iff.rfl
theorem c_nextOwn (hg : MG (im 172)) (hd : 0 ≤ dv ∧ dv < 20) : CallP (d + 1) 198 [.inr (some 171), .inl dv, .inl k] im Q ↔ Q (some (.inl (noM (im 172) (im 182) dv k))) im := by
  have hm := MG_many hg hd
  have hl := l_no (d := d) (im := im) (k := k) hg hd (im 172 (23 * dv + 5)).toNat 0 (-1) (by omega) (by omega) (by omega) Q
  simp (disch := omega) only [en_198, pg_198_0, wp_iload, wp_aload, wp_istore, wp_astore, wp_iinc, wp_iconst, wp_dup, wp_dup2, wp_pop, wp_iadd, wp_isub, wp_imul, wp_idiv, wp_irem, wp_ineg, wp_iand, wp_ior, wp_ixor, wp_ishl, wp_ishr, wp_getI, wp_putI, wp_getR, wp_goto, wp_goto_w, wq_if_eq, wq_if_ne, wq_if_lt, wq_if_ge, wq_if_gt, wq_if_le, wq_icmp_eq, wq_icmp_ne, wq_icmp_lt, wq_icmp_ge, wq_icmp_gt, wq_icmp_le, wp_max, wp_min, kI_inl, kR_some, kN_inl, kO_some, KT_none, KT_some, List.length_cons, List.length_nil, Nat.reduceAdd, Nat.reduceLT, Nat.reduceLeDiff, Nat.reduceMod, Nat.reduceDiv, true_and, and_true, Int.reduceLE, Int.reduceNeg, Int.reduceLT, Int.cast_ofNat_Int, Nat.zero_le, zI, Int.reduceAdd, Int.reduceSub, Int.reduceMul, not_true_eq_false, not_false_eq_true, false_implies, true_implies, i01_0, i01_1, ite_not, ↓reduceIte, zget_0, zget_1, zget_2, zget_3, zget_4, zget_5, zget_6, zget_7, zget_8, zget_9, zget_10, zset_0, zset_1, zset_2, zset_3, zset_4, zset_5, zset_6, zset_7, zset_8, zset_9, zset_10]
  exact hl
def cwW (W : Int → Int) : Int → Int := fun j => if 0 ≤ j ∧ j < 3 then -1 else W j
theorem c_clearWB : CallP (d + 1) 199 [.inr (some 171)] im Q ↔ Q none (setc im 182 (cwW (im 182))) := by
  simp (disch := omega) only [en_199, wp_return rk_199, pg_199_0, pg_199_20, wp_iload, wp_aload, wp_istore, wp_astore, wp_iinc, wp_iconst, wp_dup, wp_dup2, wp_pop, wp_iadd, wp_isub, wp_imul, wp_idiv, wp_irem, wp_ineg, wp_iand, wp_ior, wp_ixor, wp_ishl, wp_ishr, wp_getI, wp_putI, wp_getR, wp_goto, wp_goto_w, wq_if_eq, wq_if_ne, wq_if_lt, wq_if_ge, wq_if_gt, wq_if_le, wq_icmp_eq, wq_icmp_ne, wq_icmp_lt, wq_icmp_ge, wq_icmp_gt, wq_icmp_le, wp_max, wp_min, kI_inl, kR_some, kN_inl, kO_some, KT_none, KT_some, List.length_cons, List.length_nil, Nat.reduceAdd, Nat.reduceLT, Nat.reduceLeDiff, Nat.reduceMod, Nat.reduceDiv, true_and, and_true, Int.reduceLE, Int.reduceNeg, Int.reduceLT, Int.cast_ofNat_Int, Nat.zero_le, zI, Int.reduceAdd, Int.reduceSub, Int.reduceMul, not_true_eq_false, not_false_eq_true, false_implies, true_implies, i01_0, i01_1, ite_not, ↓reduceIte, zget_0, zget_1, zget_2, zget_3, zget_4, zget_5, zget_6, zget_7, zget_8, zget_9, zget_10, zset_0, zset_1, zset_2, zset_3, zset_4, zset_5, zset_6, zset_7, zset_8, zset_9, zset_10, kd_171, rf_171_0, rf_171_1, rf_171_3, rf_171_4, rf_171_5, rf_171_6, rf_171_7, rf_171_8, rf_171_10, rf_171_13, rf_171_14, rf_171_15, rf_171_16, rf_171_17, rf_171_20, rf_171_21, rf_171_27, rf_171_28, rf_171_29, rf_171_30, rf_171_31, pg_199_2, wp_iastore kd_182, zu_setc, setc_at, setc_setc, true_and]
  refine iff_of_eq (congrArg (fun c => Q none (setc im 182 c)) ?_)
  funext j
  simp only [ups, cwW]
  grind
theorem loM_cases {T : Int → Int} {sz st en : Int} (hst : 1 ≤ st) : ∀ (n : Nat) (u : Int), 0 ≤ u → loM T sz st en n u = -1 ∨ (0 ≤ loM T sz st en n u ∧ loM T sz st en n u + sz ≤ en)
  | 0, u, h => Or.inl rfl
  | n + 1, u, h => by
    simp only [loM]
    split
    · split
      · exact Or.inr (by omega)
      · exact loM_cases hst n (u + st) (by omega)
    · exact Or.inl rfl
theorem loW_cases {A T : Int → Int} {sz st : Int} (hst : 1 ≤ st) (hw : BwM A bu k) : loW A T bu k sz st = -1 ∨ (0 ≤ loW A T bu k sz st ∧ loW A T bu k sz st + sz ≤ 1024) := by
  unfold loW
  split
  · exact Or.inl rfl
  · rename_i c
    have h := hw.2.2.resolve_left c
    have hr := rupM_bd (v := beM A bu k) (s := st) h.1 hst
    rcases loM_cases (T := T) (sz := sz) (en := beM A bu k + wiM A bu k) hst 1100 (rupM (beM A bu k) st) (by omega) with h1 | h1
    · exact Or.inl h1
    · exact Or.inr (by omega)
def fim (X : zM) (y : (Int → Int) × (Int → Int)) : zM := setc (setc X 181 y.1) 182 y.2
theorem fim_A {X : zM} {y : (Int → Int) × (Int → Int)} : fim X y 172 = X 172 := by
  unfold fim
  rw [setc_ne _ _ (by omega), setc_ne _ _ (by omega)]
theorem fim_T {X : zM} {y : (Int → Int) × (Int → Int)} : fim X y 181 = y.1 := by
  unfold fim
  rw [setc_ne _ _ (by omega), setc_at]
theorem fim_W {X : zM} {y : (Int → Int) × (Int → Int)} : fim X y 182 = y.2 := by
  unfold fim
  rw [setc_at]
theorem fim_sW {X : zM} {y : (Int → Int) × (Int → Int)} {w : Int → Int} : setc (fim X y) 182 w = fim X (y.1, w) := by
  unfold fim
  rw [setc_setc]
theorem fim_sT {X : zM} {y : (Int → Int) × (Int → Int)} {w : Int → Int} : setc (fim X y) 181 w = fim X (w, y.2) := by
  unfold fim
  rw [setc_comm _ _ _ (by omega), setc_setc]
theorem fim_self (X : zM) : fim X (X 181, X 182) = X := by
  unfold fim
  dsimp only
  rw [setc_self, setc_self]
/-- how many of three have no place yet -/
def muW (W : Int → Int) : Int := (if W 0 < 0 then 1 else 0) + (if W 1 < 0 then 1 else 0) + (if W 2 < 0 then 1 else 0)
theorem muW_ups {W : Int → Int} (ha : 0 ≤ a ∧ a < 3) (h : W a < 0) (hv : 0 ≤ v) : muW (ups W a v) + 1 = muW W := by
  rcases (show a = 0 ∨ a = 1 ∨ a = 2 by omega) with rfl | rfl | rfl <;> (simp only [muW, ups]; grind)
theorem muW_bd (W : Int → Int) : 0 ≤ muW W ∧ muW W ≤ 3 := by
  unfold muW
  split <;> split <;> split <;> omega
def fiI (A : Int → Int) (dv bu k : Int) : Nat → (Int → Int) × (Int → Int) → Int × ((Int → Int) × (Int → Int))
  | 0, y => (1, y)
  | n + 1, y => if noM A y.2 dv k < 0 then (1, y) else if loW A y.1 bu k (A (23 * dv + (9 + noM A y.2 dv k))) (A (23 * dv + (9 + noM A y.2 dv k))) < 0 then (0, (y.1, ups y.2 (noM A y.2 dv k) (loW A y.1 bu k (A (23 * dv + (9 + noM A y.2 dv k))) (A (23 * dv + (9 + noM A y.2 dv k)))))) else fiI A dv bu k n (mkT y.1 (loW A y.1 bu k (A (23 * dv + (9 + noM A y.2 dv k))) (A (23 * dv + (9 + noM A y.2 dv k)))) (A (23 * dv + (9 + noM A y.2 dv k))) 1, ups y.2 (noM A y.2 dv k) (loW A y.1 bu k (A (23 * dv + (9 + noM A y.2 dv k))) (A (23 * dv + (9 + noM A y.2 dv k)))))
/-- sizes are positive -/
abbrev MZ (A : Int → Int) (dv : Int) : Prop := ∀ a : Int, 0 ≤ a → a < A (23 * dv + 5) → 1 ≤ A (23 * dv + (9 + a))
theorem l_fiI {X : zM} {A : Int → Int} (hX : X 172 = A) (hg : MG A) (hd : 0 ≤ dv ∧ dv < 20) (hz : MZ A dv) (hb : 0 ≤ bu ∧ bu ≤ 20) (hk : 0 ≤ k ∧ k < 2) (hw : BwM A bu k) : ∀ (n : Nat) (y : (Int → Int) × (Int → Int)), muW y.2 < n → TkB y.1 (90 - n) → n ≤ 10 →
    ((fiI A dv bu k n y).1 = 1 ∨ (fiI A dv bu k n y).1 = 0) ∧ ((fiI A dv bu k n y).1 = 1 → ∀ Q, wp none (d + 4) 200 (zpg 200 25) [.inr (some 171), .inl dv, .inl bu, .inl k, .inl (noM A y.2 dv k)] [] (fim X y) Q ↔ wp none (d + 4) 200 (zpg 200 108) [.inr (some 171), .inl dv, .inl bu, .inl k, .inl (-1)] [] (fim X (fiI A dv bu k n y).2) Q) ∧ ((fiI A dv bu k n y).1 = 0 → ∀ Q, wp none (d + 4) 200 (zpg 200 25) [.inr (some 171), .inl dv, .inl bu, .inl k, .inl (noM A y.2 dv k)] [] (fim X y) Q ↔ Q (some (.inl 0)) (fim X (fiI A dv bu k n y).2))
  | 0, y, h0, h1, h2 => by
    have := muW_bd y.2
    omega
  | n + 1, y, h0, h1, h2 => by
    have hm := MG_many hg hd
    rcases noM_cases (W := y.2) (k := k) hg hd with c | ⟨c1, c2, c3, c4⟩
    · have ec : fiI A dv bu k (n + 1) y = (1, y) := if_pos (by omega)
      rw [ec]
      refine ⟨Or.inl rfl, fun _ Q => ?_, fun q => ?_⟩
      · conv => lhs; rw [pg_200_25]
        simp (disch := omega) only [wp_iload, wp_aload, wp_istore, wp_astore, wp_iinc, wp_iconst, wp_dup, wp_dup2, wp_pop, wp_iadd, wp_isub, wp_imul, wp_idiv, wp_irem, wp_ineg, wp_iand, wp_ior, wp_ixor, wp_ishl, wp_ishr, wp_getI, wp_putI, wp_getR, wp_goto, wp_goto_w, wq_if_eq, wq_if_ne, wq_if_lt, wq_if_ge, wq_if_gt, wq_if_le, wq_icmp_eq, wq_icmp_ne, wq_icmp_lt, wq_icmp_ge, wq_icmp_gt, wq_icmp_le, wp_max, wp_min, kI_inl, kR_some, kN_inl, kO_some, KT_none, KT_some, List.length_cons, List.length_nil, Nat.reduceAdd, Nat.reduceLT, Nat.reduceLeDiff, Nat.reduceMod, Nat.reduceDiv, true_and, and_true, Int.reduceLE, Int.reduceNeg, Int.reduceLT, Int.cast_ofNat_Int, Nat.zero_le, zI, Int.reduceAdd, Int.reduceSub, Int.reduceMul, not_true_eq_false, not_false_eq_true, false_implies, true_implies, i01_0, i01_1, ite_not, ↓reduceIte, zget_0, zget_1, zget_2, zget_3, zget_4, zget_5, zget_6, zget_7, zget_8, zget_9, zget_10, zset_0, zset_1, zset_2, zset_3, zset_4, zset_5, zset_6, zset_7, zset_8, zset_9, zset_10, kd_171, rf_171_0, rf_171_1, rf_171_3, rf_171_4, rf_171_5, rf_171_6, rf_171_7, rf_171_8, rf_171_10, rf_171_13, rf_171_14, rf_171_15, rf_171_16, rf_171_17, rf_171_20, rf_171_21, rf_171_27, rf_171_28, rf_171_29, rf_171_30, rf_171_31, c, show (-1 : Int) < 0 by omega, if_true]
      · have q2 : (1 : Int) = 0 := q
        omega
    · have c5 : ¬ noM A y.2 dv k < 0 := by omega
      have hsz := hz _ c1 c2
      have hap := MG_ap hg hd (a := noM A y.2 dv k) (by omega)
      have hlo := fun Q => c_lowestM (d := d) (im := fim X y) (bu := bu) (k := k) (sz := A (23 * dv + (9 + noM A y.2 dv k))) (st := A (23 * dv + (9 + noM A y.2 dv k))) (Q := Q) hb hk (by omega) (by omega) (by rw [fim_A, hX]; exact hw)
      rw [fim_A, hX, fim_T] at hlo
      have hlc := loW_cases (T := y.1) (sz := A (23 * dv + (9 + noM A y.2 dv k))) (st := A (23 * dv + (9 + noM A y.2 dv k))) (by omega) hw
      by_cases c6 : loW A y.1 bu k (A (23 * dv + (9 + noM A y.2 dv k))) (A (23 * dv + (9 + noM A y.2 dv k))) < 0
      · have ec : fiI A dv bu k (n + 1) y = (0, (y.1, ups y.2 (noM A y.2 dv k) (loW A y.1 bu k (A (23 * dv + (9 + noM A y.2 dv k))) (A (23 * dv + (9 + noM A y.2 dv k)))))) := by
          simp only [fiI, if_neg c5, if_pos c6]
        rw [ec]
        refine ⟨Or.inr rfl, fun q => ?_, fun _ Q => ?_⟩
        · have q2 : (0 : Int) = 1 := q
          omega
        · rw [pg_200_25]
          simp (disch := omega) only [wp_zreturn rk_200, pg_200_75, pg_200_108, pg_200_114, cw_142, cw_194, cw_195, cw_197, cw_198, cw_199, wp_iload, wp_aload, wp_istore, wp_astore, wp_iinc, wp_iconst, wp_dup, wp_dup2, wp_pop, wp_iadd, wp_isub, wp_imul, wp_idiv, wp_irem, wp_ineg, wp_iand, wp_ior, wp_ixor, wp_ishl, wp_ishr, wp_getI, wp_putI, wp_getR, wp_goto, wp_goto_w, wq_if_eq, wq_if_ne, wq_if_lt, wq_if_ge, wq_if_gt, wq_if_le, wq_icmp_eq, wq_icmp_ne, wq_icmp_lt, wq_icmp_ge, wq_icmp_gt, wq_icmp_le, wp_max, wp_min, kI_inl, kR_some, kN_inl, kO_some, KT_none, KT_some, List.length_cons, List.length_nil, Nat.reduceAdd, Nat.reduceLT, Nat.reduceLeDiff, Nat.reduceMod, Nat.reduceDiv, true_and, and_true, Int.reduceLE, Int.reduceNeg, Int.reduceLT, Int.cast_ofNat_Int, Nat.zero_le, zI, Int.reduceAdd, Int.reduceSub, Int.reduceMul, not_true_eq_false, not_false_eq_true, false_implies, true_implies, i01_0, i01_1, ite_not, ↓reduceIte, zget_0, zget_1, zget_2, zget_3, zget_4, zget_5, zget_6, zget_7, zget_8, zget_9, zget_10, zset_0, zset_1, zset_2, zset_3, zset_4, zset_5, zset_6, zset_7, zset_8, zset_9, zset_10, kd_171, rf_171_0, rf_171_1, rf_171_3, rf_171_4, rf_171_5, rf_171_6, rf_171_7, rf_171_8, rf_171_10, rf_171_13, rf_171_14, rf_171_15, rf_171_16, rf_171_17, rf_171_20, rf_171_21, rf_171_27, rf_171_28, rf_171_29, rf_171_30, rf_171_31, wp_iaload kd_182, wp_iastore kd_182, zu_setc, c5, if_false, c_of, fim_A, hX, hlo, fim_W, fim_sW, ups_at, show ¬ 0 ≤ loW A y.1 bu k (A (23 * dv + (9 + noM A y.2 dv k))) (A (23 * dv + (9 + noM A y.2 dv k))) by omega, true_or, true_and]
          try (repeat (refine (and_iff_right (by omega)).trans ?_))
          try exact Iff.rfl
      · have hw0 : 0 ≤ loW A y.1 bu k (A (23 * dv + (9 + noM A y.2 dv k))) (A (23 * dv + (9 + noM A y.2 dv k))) ∧ loW A y.1 bu k (A (23 * dv + (9 + noM A y.2 dv k))) (A (23 * dv + (9 + noM A y.2 dv k))) + A (23 * dv + (9 + noM A y.2 dv k)) ≤ 1024 := by omega
        have ec : fiI A dv bu k (n + 1) y = fiI A dv bu k n (mkT y.1 (loW A y.1 bu k (A (23 * dv + (9 + noM A y.2 dv k))) (A (23 * dv + (9 + noM A y.2 dv k)))) (A (23 * dv + (9 + noM A y.2 dv k))) 1, ups y.2 (noM A y.2 dv k) (loW A y.1 bu k (A (23 * dv + (9 + noM A y.2 dv k))) (A (23 * dv + (9 + noM A y.2 dv k))))) := by
          simp only [fiI, if_neg c5, if_neg c6]
        generalize hlv : loW A y.1 bu k (A (23 * dv + (9 + noM A y.2 dv k))) (A (23 * dv + (9 + noM A y.2 dv k))) = lv at *
        have hmu := muW_ups (W := y.2) (a := noM A y.2 dv k) (v := lv) (by omega) c4 hw0.1
        have ih := l_fiI hX hg hd hz hb hk hw n (mkT y.1 lv (A (23 * dv + (9 + noM A y.2 dv k))) 1, ups y.2 (noM A y.2 dv k) lv) (by dsimp only; omega) (by
          have := TkB_mk (fr := lv) (sz := A (23 * dv + (9 + noM A y.2 dv k))) (y := 1) h1 (by omega)
          intro u q0 q1
          have := this u q0 q1
          dsimp only
          omega) (by omega)
        have hmk := fun Q => c_mark (d := d + 2) (im := fim X (y.1, ups y.2 (noM A y.2 dv k) lv)) (Q := Q) (fr := lv) (sz := A (23 * dv + (9 + noM A y.2 dv k))) (y := 1) hw0.1 ⟨by omega, hw0.2⟩ (by omega) (by rw [fim_T]; exact h1) (by omega)
        rw [fim_T, fim_sT] at hmk
        have hno := fun Q => c_nextOwn (d := d + 2) (im := fim X (mkT y.1 lv (A (23 * dv + (9 + noM A y.2 dv k))) 1, ups y.2 (noM A y.2 dv k) lv)) (dv := dv) (k := k) (Q := Q) (by rw [fim_A, hX]; exact hg) hd
        rw [fim_A, hX, fim_W] at hno
        have es : ∀ Q, wp none (d + 4) 200 (zpg 200 25) [.inr (some 171), .inl dv, .inl bu, .inl k, .inl (noM A y.2 dv k)] [] (fim X y) Q ↔ wp none (d + 4) 200 (zpg 200 25) [.inr (some 171), .inl dv, .inl bu, .inl k, .inl (noM A (ups y.2 (noM A y.2 dv k) lv) dv k)] [] (fim X (mkT y.1 lv (A (23 * dv + (9 + noM A y.2 dv k))) 1, ups y.2 (noM A y.2 dv k) lv)) Q := by
          intro Q
          conv => lhs; rw [pg_200_25]
          simp (disch := omega) only [cw_142, cw_197, cw_194, cw_198, pg_200_75, wp_iload, wp_aload, wp_istore, wp_astore, wp_iinc, wp_iconst, wp_dup, wp_dup2, wp_pop, wp_iadd, wp_isub, wp_imul, wp_idiv, wp_irem, wp_ineg, wp_iand, wp_ior, wp_ixor, wp_ishl, wp_ishr, wp_getI, wp_putI, wp_getR, wp_goto, wp_goto_w, wq_if_eq, wq_if_ne, wq_if_lt, wq_if_ge, wq_if_gt, wq_if_le, wq_icmp_eq, wq_icmp_ne, wq_icmp_lt, wq_icmp_ge, wq_icmp_gt, wq_icmp_le, wp_max, wp_min, kI_inl, kR_some, kN_inl, kO_some, KT_none, KT_some, List.length_cons, List.length_nil, Nat.reduceAdd, Nat.reduceLT, Nat.reduceLeDiff, Nat.reduceMod, Nat.reduceDiv, true_and, and_true, Int.reduceLE, Int.reduceNeg, Int.reduceLT, Int.cast_ofNat_Int, Nat.zero_le, zI, Int.reduceAdd, Int.reduceSub, Int.reduceMul, not_true_eq_false, not_false_eq_true, false_implies, true_implies, i01_0, i01_1, ite_not, ↓reduceIte, zget_0, zget_1, zget_2, zget_3, zget_4, zget_5, zget_6, zget_7, zget_8, zget_9, zget_10, zset_0, zset_1, zset_2, zset_3, zset_4, zset_5, zset_6, zset_7, zset_8, zset_9, zset_10, kd_171, rf_171_0, rf_171_1, rf_171_3, rf_171_4, rf_171_5, rf_171_6, rf_171_7, rf_171_8, rf_171_10, rf_171_13, rf_171_14, rf_171_15, rf_171_16, rf_171_17, rf_171_20, rf_171_21, rf_171_27, rf_171_28, rf_171_29, rf_171_30, rf_171_31, wp_iaload kd_182, wp_iastore kd_182, zu_setc, c5, if_false, c_of, fim_A, hX, hlo, fim_W, fim_sW, ups_at, show 0 ≤ lv by omega, if_true, hmk, hno]
          try (repeat (refine (and_iff_right (by omega)).trans ?_))
          try exact Iff.rfl
        rw [ec]
        exact ⟨ih.1, fun q Q => (es Q).trans (ih.2.1 q Q), fun q Q => (es Q).trans (ih.2.2 q Q)⟩
def fiK (A : Int → Int) (dv bu : Int) : Nat → Int → (Int → Int) × (Int → Int) → Int × ((Int → Int) × (Int → Int))
  | 0, _, y => (1, y)
  | m + 1, k, y => if (fiI A dv bu k 4 (laT A y.1 bu k, y.2)).1 = 1 then fiK A dv bu m (k + 1) (fiI A dv bu k 4 (laT A y.1 bu k, y.2)).2 else (0, (fiI A dv bu k 4 (laT A y.1 bu k, y.2)).2)
theorem l_fiK {X : zM} {A : Int → Int} (hX : X 172 = A) (hg : MG A) (hd : 0 ≤ dv ∧ dv < 20) (hz : MZ A dv) (hb : 0 ≤ bu ∧ bu ≤ 20) (hw : ∀ k : Int, 0 ≤ k → k < 2 → BwM A bu k ∧ TkP A bu k) : ∀ (m : Nat) (k : Int) (y : (Int → Int) × (Int → Int)) (x4 : zV), 0 ≤ k → k + m = 2 → ((fiK A dv bu m k y).1 = 1 ∨ (fiK A dv bu m k y).1 = 0) ∧ ∀ Q, wp none (d + 4) 200 (zpg 200 6) [.inr (some 171), .inl dv, .inl bu, .inl k, x4] [] (fim X y) Q ↔ Q (some (.inl (fiK A dv bu m k y).1)) (fim X (fiK A dv bu m k y).2)
  | 0, k, y, x4, h0, h1 => by
    refine ⟨Or.inl rfl, fun Q => ?_⟩
    rw [pg_200_6]
    simp (disch := omega) only [wp_zreturn rk_200, pg_200_75, pg_200_108, pg_200_114, cw_142, cw_194, cw_195, cw_197, cw_198, cw_199, wp_iload, wp_aload, wp_istore, wp_astore, wp_iinc, wp_iconst, wp_dup, wp_dup2, wp_pop, wp_iadd, wp_isub, wp_imul, wp_idiv, wp_irem, wp_ineg, wp_iand, wp_ior, wp_ixor, wp_ishl, wp_ishr, wp_getI, wp_putI, wp_getR, wp_goto, wp_goto_w, wq_if_eq, wq_if_ne, wq_if_lt, wq_if_ge, wq_if_gt, wq_if_le, wq_icmp_eq, wq_icmp_ne, wq_icmp_lt, wq_icmp_ge, wq_icmp_gt, wq_icmp_le, wp_max, wp_min, kI_inl, kR_some, kN_inl, kO_some, KT_none, KT_some, List.length_cons, List.length_nil, Nat.reduceAdd, Nat.reduceLT, Nat.reduceLeDiff, Nat.reduceMod, Nat.reduceDiv, true_and, and_true, Int.reduceLE, Int.reduceNeg, Int.reduceLT, Int.cast_ofNat_Int, Nat.zero_le, zI, Int.reduceAdd, Int.reduceSub, Int.reduceMul, not_true_eq_false, not_false_eq_true, false_implies, true_implies, i01_0, i01_1, ite_not, ↓reduceIte, zget_0, zget_1, zget_2, zget_3, zget_4, zget_5, zget_6, zget_7, zget_8, zget_9, zget_10, zset_0, zset_1, zset_2, zset_3, zset_4, zset_5, zset_6, zset_7, zset_8, zset_9, zset_10, show 2 ≤ k by omega, if_true, or_true, true_and, fiK]
    try exact and_iff_right (Or.inr rfl)
  | m + 1, k, y, x4, h0, h1 => by
    have hk : 0 ≤ k ∧ k < 2 := by omega
    have hl := fun Q => (c_layTaken (d := d) (im := fim X y) (bu := bu) (k := k) (Q := Q) (by rw [fim_A, hX]; exact hg) hk hb (by rw [fim_A, hX]; exact (hw k hk.1 hk.2).2)).1
    obtain ⟨-, hl2⟩ := c_layTaken (d := d) (im := fim X y) (bu := bu) (k := k) (Q := fun _ _ => True) (by rw [fim_A, hX]; exact hg) hk hb (by rw [fim_A, hX]; exact (hw k hk.1 hk.2).2)
    rw [fim_A, hX, fim_T] at hl2
    simp only [fim_A, hX, fim_T, fim_sT] at hl
    have hno := fun Q => c_nextOwn (d := d + 2) (im := fim X (laT A y.1 bu k, y.2)) (dv := dv) (k := k) (Q := Q) (by rw [fim_A, hX]; exact hg) hd
    rw [fim_A, hX, fim_W] at hno
    have hi := l_fiI (d := d) hX hg hd hz hb hk (hw k hk.1 hk.2).1 4 (laT A y.1 bu k, y.2) (by have := muW_bd y.2; dsimp only; omega) (by intro u q0 q1; have := hl2 u q0 q1; dsimp only; omega) (by omega)
    have es : ∀ Q, wp none (d + 4) 200 (zpg 200 6) [.inr (some 171), .inl dv, .inl bu, .inl k, x4] [] (fim X y) Q ↔ wp none (d + 4) 200 (zpg 200 25) [.inr (some 171), .inl dv, .inl bu, .inl k, .inl (noM A y.2 dv k)] [] (fim X (laT A y.1 bu k, y.2)) Q := by
      intro Q
      conv => lhs; rw [pg_200_6]
      simp (disch := omega) only [cw_195, cw_198, wp_iload, wp_aload, wp_istore, wp_astore, wp_iinc, wp_iconst, wp_dup, wp_dup2, wp_pop, wp_iadd, wp_isub, wp_imul, wp_idiv, wp_irem, wp_ineg, wp_iand, wp_ior, wp_ixor, wp_ishl, wp_ishr, wp_getI, wp_putI, wp_getR, wp_goto, wp_goto_w, wq_if_eq, wq_if_ne, wq_if_lt, wq_if_ge, wq_if_gt, wq_if_le, wq_icmp_eq, wq_icmp_ne, wq_icmp_lt, wq_icmp_ge, wq_icmp_gt, wq_icmp_le, wp_max, wp_min, kI_inl, kR_some, kN_inl, kO_some, KT_none, KT_some, List.length_cons, List.length_nil, Nat.reduceAdd, Nat.reduceLT, Nat.reduceLeDiff, Nat.reduceMod, Nat.reduceDiv, true_and, and_true, Int.reduceLE, Int.reduceNeg, Int.reduceLT, Int.cast_ofNat_Int, Nat.zero_le, zI, Int.reduceAdd, Int.reduceSub, Int.reduceMul, not_true_eq_false, not_false_eq_true, false_implies, true_implies, i01_0, i01_1, ite_not, ↓reduceIte, zget_0, zget_1, zget_2, zget_3, zget_4, zget_5, zget_6, zget_7, zget_8, zget_9, zget_10, zset_0, zset_1, zset_2, zset_3, zset_4, zset_5, zset_6, zset_7, zset_8, zset_9, zset_10, kd_171, rf_171_0, rf_171_1, rf_171_3, rf_171_4, rf_171_5, rf_171_6, rf_171_7, rf_171_8, rf_171_10, rf_171_13, rf_171_14, rf_171_15, rf_171_16, rf_171_17, rf_171_20, rf_171_21, rf_171_27, rf_171_28, rf_171_29, rf_171_30, rf_171_31, show ¬ 2 ≤ k by omega, if_false, hl, hno]
    by_cases c : (fiI A dv bu k 4 (laT A y.1 bu k, y.2)).1 = 1
    · have ec : fiK A dv bu (m + 1) k y = fiK A dv bu m (k + 1) (fiI A dv bu k 4 (laT A y.1 bu k, y.2)).2 := if_pos c
      have ih := fun x4 => l_fiK hX hg hd hz hb hw m (k + 1) (fiI A dv bu k 4 (laT A y.1 bu k, y.2)).2 x4 (by omega) (by omega)
      rw [ec]
      refine ⟨(ih (.inr none)).1, fun Q => ?_⟩
      rw [es, hi.2.1 c, ← (ih (.inl (-1))).2 Q]
      conv => lhs; rw [pg_200_108]
      simp (disch := omega) only [wp_iload, wp_aload, wp_istore, wp_astore, wp_iinc, wp_iconst, wp_dup, wp_dup2, wp_pop, wp_iadd, wp_isub, wp_imul, wp_idiv, wp_irem, wp_ineg, wp_iand, wp_ior, wp_ixor, wp_ishl, wp_ishr, wp_getI, wp_putI, wp_getR, wp_goto, wp_goto_w, wq_if_eq, wq_if_ne, wq_if_lt, wq_if_ge, wq_if_gt, wq_if_le, wq_icmp_eq, wq_icmp_ne, wq_icmp_lt, wq_icmp_ge, wq_icmp_gt, wq_icmp_le, wp_max, wp_min, kI_inl, kR_some, kN_inl, kO_some, KT_none, KT_some, List.length_cons, List.length_nil, Nat.reduceAdd, Nat.reduceLT, Nat.reduceLeDiff, Nat.reduceMod, Nat.reduceDiv, true_and, and_true, Int.reduceLE, Int.reduceNeg, Int.reduceLT, Int.cast_ofNat_Int, Nat.zero_le, zI, Int.reduceAdd, Int.reduceSub, Int.reduceMul, not_true_eq_false, not_false_eq_true, false_implies, true_implies, i01_0, i01_1, ite_not, ↓reduceIte, zget_0, zget_1, zget_2, zget_3, zget_4, zget_5, zget_6, zget_7, zget_8, zget_9, zget_10, zset_0, zset_1, zset_2, zset_3, zset_4, zset_5, zset_6, zset_7, zset_8, zset_9, zset_10]
      try (repeat (refine (and_iff_right (by omega)).trans ?_))
      try exact Iff.rfl
    · have ec : fiK A dv bu (m + 1) k y = (0, (fiI A dv bu k 4 (laT A y.1 bu k, y.2)).2) := if_neg c
      rw [ec]
      exact ⟨Or.inr rfl, fun Q => by rw [es, hi.2.2 (hi.1.resolve_left c)]⟩
def fiM (A T W : Int → Int) (dv bu : Int) : Int × ((Int → Int) × (Int → Int)) := fiK A dv bu 2 0 (T, cwW W)
/-- what trying a bus wants -/
abbrev FtP (A : Int → Int) (bu : Int) : Prop := (0 ≤ bu ∧ bu ≤ 20) ∧ ∀ k : Int, 0 ≤ k → k < 2 → BwM A bu k ∧ TkP A bu k
theorem c_fitsIn (hg : MG (im 172)) (hd : 0 ≤ dv ∧ dv < 20) (hz : MZ (im 172) dv) (hw : FtP (im 172) bu) : (CallP (d + 4) 200 [.inr (some 171), .inl dv, .inl bu] im Q ↔ Q (some (.inl (fiM (im 172) (im 181) (im 182) dv bu).1)) (fim im (fiM (im 172) (im 181) (im 182) dv bu).2)) ∧ ((fiM (im 172) (im 181) (im 182) dv bu).1 = 1 ∨ (fiM (im 172) (im 181) (im 182) dv bu).1 = 0) := by
  have hl := l_fiK (d := d) (X := im) rfl hg hd hz hw.1 hw.2 2 0 (im 181, cwW (im 182)) (.inr none) (by omega) (by omega)
  refine ⟨?_, hl.1⟩
  have h1 := hl.2 Q
  have e0 : fim im (im 181, cwW (im 182)) = setc im 182 (cwW (im 182)) := by
    unfold fim
    dsimp only
    rw [setc_self]
  rw [e0] at h1
  have hc := fun Q => c_clearWB (d := d + 2) (im := im) (Q := Q)
  simp (disch := omega) only [en_200, pg_200_0, cw_199, wp_iload, wp_aload, wp_istore, wp_astore, wp_iinc, wp_iconst, wp_dup, wp_dup2, wp_pop, wp_iadd, wp_isub, wp_imul, wp_idiv, wp_irem, wp_ineg, wp_iand, wp_ior, wp_ixor, wp_ishl, wp_ishr, wp_getI, wp_putI, wp_getR, wp_goto, wp_goto_w, wq_if_eq, wq_if_ne, wq_if_lt, wq_if_ge, wq_if_gt, wq_if_le, wq_icmp_eq, wq_icmp_ne, wq_icmp_lt, wq_icmp_ge, wq_icmp_gt, wq_icmp_le, wp_max, wp_min, kI_inl, kR_some, kN_inl, kO_some, KT_none, KT_some, List.length_cons, List.length_nil, Nat.reduceAdd, Nat.reduceLT, Nat.reduceLeDiff, Nat.reduceMod, Nat.reduceDiv, true_and, and_true, Int.reduceLE, Int.reduceNeg, Int.reduceLT, Int.cast_ofNat_Int, Nat.zero_le, zI, Int.reduceAdd, Int.reduceSub, Int.reduceMul, not_true_eq_false, not_false_eq_true, false_implies, true_implies, i01_0, i01_1, ite_not, ↓reduceIte, zget_0, zget_1, zget_2, zget_3, zget_4, zget_5, zget_6, zget_7, zget_8, zget_9, zget_10, zset_0, zset_1, zset_2, zset_3, zset_4, zset_5, zset_6, zset_7, zset_8, zset_9, zset_10, kd_171, rf_171_0, rf_171_1, rf_171_3, rf_171_4, rf_171_5, rf_171_6, rf_171_7, rf_171_8, rf_171_10, rf_171_13, rf_171_14, rf_171_15, rf_171_16, rf_171_17, rf_171_20, rf_171_21, rf_171_27, rf_171_28, rf_171_29, rf_171_30, rf_171_31, hc]
  exact h1
def fsM (A : Int → Int) (bu : Int) : Int := if bu = 20 then 0 else A (23 * bu + 17)
def lsM (A : Int → Int) (bu : Int) : Int := if bu = 20 then 31 else A (23 * bu + 18)
theorem c_firstOf (hb : 0 ≤ bu ∧ bu ≤ 20) : CallP (d + 1) 201 [.inr (some 171), .inl bu] im Q ↔ Q (some (.inl (fsM (im 172) bu))) im := by
  by_cases c : bu = 20
  · simp (disch := omega) only [en_201, wp_ireturn rk_201, pg_201_0, pg_201_10, pg_201_17, cw_142, wp_iload, wp_aload, wp_istore, wp_astore, wp_iinc, wp_iconst, wp_dup, wp_dup2, wp_pop, wp_iadd, wp_isub, wp_imul, wp_idiv, wp_irem, wp_ineg, wp_iand, wp_ior, wp_ixor, wp_ishl, wp_ishr, wp_getI, wp_putI, wp_getR, wp_goto, wp_goto_w, wq_if_eq, wq_if_ne, wq_if_lt, wq_if_ge, wq_if_gt, wq_if_le, wq_icmp_eq, wq_icmp_ne, wq_icmp_lt, wq_icmp_ge, wq_icmp_gt, wq_icmp_le, wp_max, wp_min, kI_inl, kR_some, kN_inl, kO_some, KT_none, KT_some, List.length_cons, List.length_nil, Nat.reduceAdd, Nat.reduceLT, Nat.reduceLeDiff, Nat.reduceMod, Nat.reduceDiv, true_and, and_true, Int.reduceLE, Int.reduceNeg, Int.reduceLT, Int.cast_ofNat_Int, Nat.zero_le, zI, Int.reduceAdd, Int.reduceSub, Int.reduceMul, not_true_eq_false, not_false_eq_true, false_implies, true_implies, i01_0, i01_1, ite_not, ↓reduceIte, zget_0, zget_1, zget_2, zget_3, zget_4, zget_5, zget_6, zget_7, zget_8, zget_9, zget_10, zset_0, zset_1, zset_2, zset_3, zset_4, zset_5, zset_6, zset_7, zset_8, zset_9, zset_10, kd_171, rf_171_0, rf_171_1, rf_171_3, rf_171_4, rf_171_5, rf_171_6, rf_171_7, rf_171_8, rf_171_10, rf_171_13, rf_171_14, rf_171_15, rf_171_16, rf_171_17, rf_171_20, rf_171_21, rf_171_27, rf_171_28, rf_171_29, rf_171_30, rf_171_31, fsM, c, not_true_eq_false, if_false, if_true]
  · simp (disch := omega) only [en_201, wp_ireturn rk_201, pg_201_0, pg_201_10, pg_201_17, cw_142, wp_iload, wp_aload, wp_istore, wp_astore, wp_iinc, wp_iconst, wp_dup, wp_dup2, wp_pop, wp_iadd, wp_isub, wp_imul, wp_idiv, wp_irem, wp_ineg, wp_iand, wp_ior, wp_ixor, wp_ishl, wp_ishr, wp_getI, wp_putI, wp_getR, wp_goto, wp_goto_w, wq_if_eq, wq_if_ne, wq_if_lt, wq_if_ge, wq_if_gt, wq_if_le, wq_icmp_eq, wq_icmp_ne, wq_icmp_lt, wq_icmp_ge, wq_icmp_gt, wq_icmp_le, wp_max, wp_min, kI_inl, kR_some, kN_inl, kO_some, KT_none, KT_some, List.length_cons, List.length_nil, Nat.reduceAdd, Nat.reduceLT, Nat.reduceLeDiff, Nat.reduceMod, Nat.reduceDiv, true_and, and_true, Int.reduceLE, Int.reduceNeg, Int.reduceLT, Int.cast_ofNat_Int, Nat.zero_le, zI, Int.reduceAdd, Int.reduceSub, Int.reduceMul, not_true_eq_false, not_false_eq_true, false_implies, true_implies, i01_0, i01_1, ite_not, ↓reduceIte, zget_0, zget_1, zget_2, zget_3, zget_4, zget_5, zget_6, zget_7, zget_8, zget_9, zget_10, zset_0, zset_1, zset_2, zset_3, zset_4, zset_5, zset_6, zset_7, zset_8, zset_9, zset_10, kd_171, rf_171_0, rf_171_1, rf_171_3, rf_171_4, rf_171_5, rf_171_6, rf_171_7, rf_171_8, rf_171_10, rf_171_13, rf_171_14, rf_171_15, rf_171_16, rf_171_17, rf_171_20, rf_171_21, rf_171_27, rf_171_28, rf_171_29, rf_171_30, rf_171_31, c_of, fsM, c, not_false_eq_true, if_false, if_true]
theorem c_lastOf (hb : 0 ≤ bu ∧ bu ≤ 20) : CallP (d + 1) 202 [.inr (some 171), .inl bu] im Q ↔ Q (some (.inl (lsM (im 172) bu))) im := by
  by_cases c : bu = 20
  · simp (disch := omega) only [en_202, wp_ireturn rk_202, pg_202_0, pg_202_11, pg_202_18, cw_142, wp_iload, wp_aload, wp_istore, wp_astore, wp_iinc, wp_iconst, wp_dup, wp_dup2, wp_pop, wp_iadd, wp_isub, wp_imul, wp_idiv, wp_irem, wp_ineg, wp_iand, wp_ior, wp_ixor, wp_ishl, wp_ishr, wp_getI, wp_putI, wp_getR, wp_goto, wp_goto_w, wq_if_eq, wq_if_ne, wq_if_lt, wq_if_ge, wq_if_gt, wq_if_le, wq_icmp_eq, wq_icmp_ne, wq_icmp_lt, wq_icmp_ge, wq_icmp_gt, wq_icmp_le, wp_max, wp_min, kI_inl, kR_some, kN_inl, kO_some, KT_none, KT_some, List.length_cons, List.length_nil, Nat.reduceAdd, Nat.reduceLT, Nat.reduceLeDiff, Nat.reduceMod, Nat.reduceDiv, true_and, and_true, Int.reduceLE, Int.reduceNeg, Int.reduceLT, Int.cast_ofNat_Int, Nat.zero_le, zI, Int.reduceAdd, Int.reduceSub, Int.reduceMul, not_true_eq_false, not_false_eq_true, false_implies, true_implies, i01_0, i01_1, ite_not, ↓reduceIte, zget_0, zget_1, zget_2, zget_3, zget_4, zget_5, zget_6, zget_7, zget_8, zget_9, zget_10, zset_0, zset_1, zset_2, zset_3, zset_4, zset_5, zset_6, zset_7, zset_8, zset_9, zset_10, kd_171, rf_171_0, rf_171_1, rf_171_3, rf_171_4, rf_171_5, rf_171_6, rf_171_7, rf_171_8, rf_171_10, rf_171_13, rf_171_14, rf_171_15, rf_171_16, rf_171_17, rf_171_20, rf_171_21, rf_171_27, rf_171_28, rf_171_29, rf_171_30, rf_171_31, lsM, c, not_true_eq_false, if_false, if_true]
  · simp (disch := omega) only [en_202, wp_ireturn rk_202, pg_202_0, pg_202_11, pg_202_18, cw_142, wp_iload, wp_aload, wp_istore, wp_astore, wp_iinc, wp_iconst, wp_dup, wp_dup2, wp_pop, wp_iadd, wp_isub, wp_imul, wp_idiv, wp_irem, wp_ineg, wp_iand, wp_ior, wp_ixor, wp_ishl, wp_ishr, wp_getI, wp_putI, wp_getR, wp_goto, wp_goto_w, wq_if_eq, wq_if_ne, wq_if_lt, wq_if_ge, wq_if_gt, wq_if_le, wq_icmp_eq, wq_icmp_ne, wq_icmp_lt, wq_icmp_ge, wq_icmp_gt, wq_icmp_le, wp_max, wp_min, kI_inl, kR_some, kN_inl, kO_some, KT_none, KT_some, List.length_cons, List.length_nil, Nat.reduceAdd, Nat.reduceLT, Nat.reduceLeDiff, Nat.reduceMod, Nat.reduceDiv, true_and, and_true, Int.reduceLE, Int.reduceNeg, Int.reduceLT, Int.cast_ofNat_Int, Nat.zero_le, zI, Int.reduceAdd, Int.reduceSub, Int.reduceMul, not_true_eq_false, not_false_eq_true, false_implies, true_implies, i01_0, i01_1, ite_not, ↓reduceIte, zget_0, zget_1, zget_2, zget_3, zget_4, zget_5, zget_6, zget_7, zget_8, zget_9, zget_10, zset_0, zset_1, zset_2, zset_3, zset_4, zset_5, zset_6, zset_7, zset_8, zset_9, zset_10, kd_171, rf_171_0, rf_171_1, rf_171_3, rf_171_4, rf_171_5, rf_171_6, rf_171_7, rf_171_8, rf_171_10, rf_171_13, rf_171_14, rf_171_15, rf_171_16, rf_171_17, rf_171_20, rf_171_21, rf_171_27, rf_171_28, rf_171_29, rf_171_30, rf_171_31, c_of, lsM, c, not_false_eq_true, if_false, if_true]
def nfB (A : Int → Int) (bu n : Int) (e : Int) : Bool := decide (onM A e ∧ A (23 * e + 1) = 1 ∧ buM A e = bu ∧ A (23 * e + 17) ≤ n ∧ n ≤ A (23 * e + 18))
abbrev fuP (A : Int → Int) (bu n : Int) : Prop := (fsM A bu + 1 ≤ n ∧ n ≤ lsM A bu) ∧ ff (nfB A bu n) 20 0 = -1
theorem l_fu : ∀ (n : Nat) (e : Int), 0 ≤ e → e + n = 20 → ∀ Q, wp none (d + 3) 203 (zpg 203 23) [.inr (some 171), .inl bu, .inl v, .inl e] [] im Q ↔ Q (some (.inl (if ff (nfB (im 172) bu v) n e = -1 then 1 else 0))) im
  | 0, e, h0, h1, Q => by
    rw [pg_203_23]
    simp (disch := omega) only [wp_zreturn rk_203, pg_203_21, pg_203_59, pg_203_82, pg_203_88, cw_141, cw_142, cw_147, cw_175, cw_201, cw_202, wp_iload, wp_aload, wp_istore, wp_astore, wp_iinc, wp_iconst, wp_dup, wp_dup2, wp_pop, wp_iadd, wp_isub, wp_imul, wp_idiv, wp_irem, wp_ineg, wp_iand, wp_ior, wp_ixor, wp_ishl, wp_ishr, wp_getI, wp_putI, wp_getR, wp_goto, wp_goto_w, wq_if_eq, wq_if_ne, wq_if_lt, wq_if_ge, wq_if_gt, wq_if_le, wq_icmp_eq, wq_icmp_ne, wq_icmp_lt, wq_icmp_ge, wq_icmp_gt, wq_icmp_le, wp_max, wp_min, kI_inl, kR_some, kN_inl, kO_some, KT_none, KT_some, List.length_cons, List.length_nil, Nat.reduceAdd, Nat.reduceLT, Nat.reduceLeDiff, Nat.reduceMod, Nat.reduceDiv, true_and, and_true, Int.reduceLE, Int.reduceNeg, Int.reduceLT, Int.cast_ofNat_Int, Nat.zero_le, zI, Int.reduceAdd, Int.reduceSub, Int.reduceMul, not_true_eq_false, not_false_eq_true, false_implies, true_implies, i01_0, i01_1, ite_not, ↓reduceIte, zget_0, zget_1, zget_2, zget_3, zget_4, zget_5, zget_6, zget_7, zget_8, zget_9, zget_10, zset_0, zset_1, zset_2, zset_3, zset_4, zset_5, zset_6, zset_7, zset_8, zset_9, zset_10, show 20 ≤ e by omega, if_true, ff, or_true, true_and]
    try exact and_iff_right (Or.inr rfl)
  | n + 1, e, h0, h1, Q => by
    have ih := l_fu n (e + 1) (by omega) (by omega) Q
    have hd : 0 ≤ e ∧ e < 20 := by omega
    have hbo := fun Q => c_busOf (d := d + 1) (im := im) (dv := e) (Q := Q) hd
    have hno : ¬ (onM (im 172) e ∧ im 172 (23 * e + 1) = 1 ∧ buM (im 172) e = bu ∧ im 172 (23 * e + 17) ≤ v ∧ v ≤ im 172 (23 * e + 18)) → (Q (some (.inl (if ff (nfB (im 172) bu v) (n + 1) e = -1 then 1 else 0))) im ↔ wp none (d + 3) 203 (zpg 203 82) [.inr (some 171), .inl bu, .inl v, .inl e] [] im Q) := by
      intro hc
      have ec : ff (nfB (im 172) bu v) (n + 1) e = ff (nfB (im 172) bu v) n (e + 1) := if_neg (fun q => hc (of_decide_eq_true q))
      rw [ec, ← ih]
      conv => rhs; rw [pg_203_82]
      simp (disch := omega) only [wp_iload, wp_aload, wp_istore, wp_astore, wp_iinc, wp_iconst, wp_dup, wp_dup2, wp_pop, wp_iadd, wp_isub, wp_imul, wp_idiv, wp_irem, wp_ineg, wp_iand, wp_ior, wp_ixor, wp_ishl, wp_ishr, wp_getI, wp_putI, wp_getR, wp_goto, wp_goto_w, wq_if_eq, wq_if_ne, wq_if_lt, wq_if_ge, wq_if_gt, wq_if_le, wq_icmp_eq, wq_icmp_ne, wq_icmp_lt, wq_icmp_ge, wq_icmp_gt, wq_icmp_le, wp_max, wp_min, kI_inl, kR_some, kN_inl, kO_some, KT_none, KT_some, List.length_cons, List.length_nil, Nat.reduceAdd, Nat.reduceLT, Nat.reduceLeDiff, Nat.reduceMod, Nat.reduceDiv, true_and, and_true, Int.reduceLE, Int.reduceNeg, Int.reduceLT, Int.cast_ofNat_Int, Nat.zero_le, zI, Int.reduceAdd, Int.reduceSub, Int.reduceMul, not_true_eq_false, not_false_eq_true, false_implies, true_implies, i01_0, i01_1, ite_not, ↓reduceIte, zget_0, zget_1, zget_2, zget_3, zget_4, zget_5, zget_6, zget_7, zget_8, zget_9, zget_10, zset_0, zset_1, zset_2, zset_3, zset_4, zset_5, zset_6, zset_7, zset_8, zset_9, zset_10]
      refine (Iff.symm ?_)
      try (repeat (refine (and_iff_right (by omega)).trans ?_))
      try exact Iff.rfl
    rw [pg_203_23]
    by_cases c1 : onM (im 172) e
    · by_cases c2 : im 172 (23 * e + 1) = 1
      · by_cases c3 : buM (im 172) e = bu
        · by_cases c4 : im 172 (23 * e + 17) ≤ v ∧ v ≤ im 172 (23 * e + 18)
          · have ec : ff (nfB (im 172) bu v) (n + 1) e = e := if_pos (decide_eq_true ⟨c1, c2, c3, c4⟩)
            rw [ec, if_neg (show ¬ e = -1 by omega)]
            simp (disch := omega) only [pg_203_59, cw_147, cw_142, cw_175, cw_141, wp_zreturn rk_203, wp_iload, wp_aload, wp_istore, wp_astore, wp_iinc, wp_iconst, wp_dup, wp_dup2, wp_pop, wp_iadd, wp_isub, wp_imul, wp_idiv, wp_irem, wp_ineg, wp_iand, wp_ior, wp_ixor, wp_ishl, wp_ishr, wp_getI, wp_putI, wp_getR, wp_goto, wp_goto_w, wq_if_eq, wq_if_ne, wq_if_lt, wq_if_ge, wq_if_gt, wq_if_le, wq_icmp_eq, wq_icmp_ne, wq_icmp_lt, wq_icmp_ge, wq_icmp_gt, wq_icmp_le, wp_max, wp_min, kI_inl, kR_some, kN_inl, kO_some, KT_none, KT_some, List.length_cons, List.length_nil, Nat.reduceAdd, Nat.reduceLT, Nat.reduceLeDiff, Nat.reduceMod, Nat.reduceDiv, true_and, and_true, Int.reduceLE, Int.reduceNeg, Int.reduceLT, Int.cast_ofNat_Int, Nat.zero_le, zI, Int.reduceAdd, Int.reduceSub, Int.reduceMul, not_true_eq_false, not_false_eq_true, false_implies, true_implies, i01_0, i01_1, ite_not, ↓reduceIte, zget_0, zget_1, zget_2, zget_3, zget_4, zget_5, zget_6, zget_7, zget_8, zget_9, zget_10, zset_0, zset_1, zset_2, zset_3, zset_4, zset_5, zset_6, zset_7, zset_8, zset_9, zset_10, kd_171, rf_171_0, rf_171_1, rf_171_3, rf_171_4, rf_171_5, rf_171_6, rf_171_7, rf_171_8, rf_171_10, rf_171_13, rf_171_14, rf_171_15, rf_171_16, rf_171_17, rf_171_20, rf_171_21, rf_171_27, rf_171_28, rf_171_29, rf_171_30, rf_171_31, show ¬ 20 ≤ e by omega, if_false, c_onM, if_pos c1, c_of, c2, hbo, c3, if_true, c_isIn, if_pos c4]
            try simp only [show ¬ (1 : Int) = 0 by omega, if_false, not_true_eq_false, true_or, true_and]
          · rw [hno (fun q => c4 q.2.2.2)]
            simp (disch := omega) only [pg_203_59, cw_147, cw_142, cw_175, cw_141, wp_zreturn rk_203, wp_iload, wp_aload, wp_istore, wp_astore, wp_iinc, wp_iconst, wp_dup, wp_dup2, wp_pop, wp_iadd, wp_isub, wp_imul, wp_idiv, wp_irem, wp_ineg, wp_iand, wp_ior, wp_ixor, wp_ishl, wp_ishr, wp_getI, wp_putI, wp_getR, wp_goto, wp_goto_w, wq_if_eq, wq_if_ne, wq_if_lt, wq_if_ge, wq_if_gt, wq_if_le, wq_icmp_eq, wq_icmp_ne, wq_icmp_lt, wq_icmp_ge, wq_icmp_gt, wq_icmp_le, wp_max, wp_min, kI_inl, kR_some, kN_inl, kO_some, KT_none, KT_some, List.length_cons, List.length_nil, Nat.reduceAdd, Nat.reduceLT, Nat.reduceLeDiff, Nat.reduceMod, Nat.reduceDiv, true_and, and_true, Int.reduceLE, Int.reduceNeg, Int.reduceLT, Int.cast_ofNat_Int, Nat.zero_le, zI, Int.reduceAdd, Int.reduceSub, Int.reduceMul, not_true_eq_false, not_false_eq_true, false_implies, true_implies, i01_0, i01_1, ite_not, ↓reduceIte, zget_0, zget_1, zget_2, zget_3, zget_4, zget_5, zget_6, zget_7, zget_8, zget_9, zget_10, zset_0, zset_1, zset_2, zset_3, zset_4, zset_5, zset_6, zset_7, zset_8, zset_9, zset_10, kd_171, rf_171_0, rf_171_1, rf_171_3, rf_171_4, rf_171_5, rf_171_6, rf_171_7, rf_171_8, rf_171_10, rf_171_13, rf_171_14, rf_171_15, rf_171_16, rf_171_17, rf_171_20, rf_171_21, rf_171_27, rf_171_28, rf_171_29, rf_171_30, rf_171_31, show ¬ 20 ≤ e by omega, if_false, c_onM, if_pos c1, c_of, c2, hbo, c3, if_true, c_isIn, if_neg c4]
            try simp only [show ¬ (1 : Int) = 0 by omega, if_false, not_true_eq_false]
        · rw [hno (fun q => c3 q.2.2.1)]
          simp (disch := omega) only [pg_203_59, cw_147, cw_142, cw_175, cw_141, wp_zreturn rk_203, wp_iload, wp_aload, wp_istore, wp_astore, wp_iinc, wp_iconst, wp_dup, wp_dup2, wp_pop, wp_iadd, wp_isub, wp_imul, wp_idiv, wp_irem, wp_ineg, wp_iand, wp_ior, wp_ixor, wp_ishl, wp_ishr, wp_getI, wp_putI, wp_getR, wp_goto, wp_goto_w, wq_if_eq, wq_if_ne, wq_if_lt, wq_if_ge, wq_if_gt, wq_if_le, wq_icmp_eq, wq_icmp_ne, wq_icmp_lt, wq_icmp_ge, wq_icmp_gt, wq_icmp_le, wp_max, wp_min, kI_inl, kR_some, kN_inl, kO_some, KT_none, KT_some, List.length_cons, List.length_nil, Nat.reduceAdd, Nat.reduceLT, Nat.reduceLeDiff, Nat.reduceMod, Nat.reduceDiv, true_and, and_true, Int.reduceLE, Int.reduceNeg, Int.reduceLT, Int.cast_ofNat_Int, Nat.zero_le, zI, Int.reduceAdd, Int.reduceSub, Int.reduceMul, not_true_eq_false, not_false_eq_true, false_implies, true_implies, i01_0, i01_1, ite_not, ↓reduceIte, zget_0, zget_1, zget_2, zget_3, zget_4, zget_5, zget_6, zget_7, zget_8, zget_9, zget_10, zset_0, zset_1, zset_2, zset_3, zset_4, zset_5, zset_6, zset_7, zset_8, zset_9, zset_10, kd_171, rf_171_0, rf_171_1, rf_171_3, rf_171_4, rf_171_5, rf_171_6, rf_171_7, rf_171_8, rf_171_10, rf_171_13, rf_171_14, rf_171_15, rf_171_16, rf_171_17, rf_171_20, rf_171_21, rf_171_27, rf_171_28, rf_171_29, rf_171_30, rf_171_31, show ¬ 20 ≤ e by omega, if_false, c_onM, if_pos c1, c_of, c2, hbo, c3]
          try simp only [show ¬ (1 : Int) = 0 by omega, if_false, not_true_eq_false]
      · rw [hno (fun q => c2 q.2.1)]
        simp (disch := omega) only [pg_203_59, cw_147, cw_142, cw_175, cw_141, wp_zreturn rk_203, wp_iload, wp_aload, wp_istore, wp_astore, wp_iinc, wp_iconst, wp_dup, wp_dup2, wp_pop, wp_iadd, wp_isub, wp_imul, wp_idiv, wp_irem, wp_ineg, wp_iand, wp_ior, wp_ixor, wp_ishl, wp_ishr, wp_getI, wp_putI, wp_getR, wp_goto, wp_goto_w, wq_if_eq, wq_if_ne, wq_if_lt, wq_if_ge, wq_if_gt, wq_if_le, wq_icmp_eq, wq_icmp_ne, wq_icmp_lt, wq_icmp_ge, wq_icmp_gt, wq_icmp_le, wp_max, wp_min, kI_inl, kR_some, kN_inl, kO_some, KT_none, KT_some, List.length_cons, List.length_nil, Nat.reduceAdd, Nat.reduceLT, Nat.reduceLeDiff, Nat.reduceMod, Nat.reduceDiv, true_and, and_true, Int.reduceLE, Int.reduceNeg, Int.reduceLT, Int.cast_ofNat_Int, Nat.zero_le, zI, Int.reduceAdd, Int.reduceSub, Int.reduceMul, not_true_eq_false, not_false_eq_true, false_implies, true_implies, i01_0, i01_1, ite_not, ↓reduceIte, zget_0, zget_1, zget_2, zget_3, zget_4, zget_5, zget_6, zget_7, zget_8, zget_9, zget_10, zset_0, zset_1, zset_2, zset_3, zset_4, zset_5, zset_6, zset_7, zset_8, zset_9, zset_10, kd_171, rf_171_0, rf_171_1, rf_171_3, rf_171_4, rf_171_5, rf_171_6, rf_171_7, rf_171_8, rf_171_10, rf_171_13, rf_171_14, rf_171_15, rf_171_16, rf_171_17, rf_171_20, rf_171_21, rf_171_27, rf_171_28, rf_171_29, rf_171_30, rf_171_31, show ¬ 20 ≤ e by omega, if_false, c_onM, if_pos c1, c_of, c2, not_false_eq_true, if_true]
        try simp only [show ¬ (1 : Int) = 0 by omega, if_false, not_true_eq_false]
    · rw [hno (fun q => c1 q.1)]
      simp (disch := omega) only [pg_203_59, cw_147, cw_142, cw_175, cw_141, wp_zreturn rk_203, wp_iload, wp_aload, wp_istore, wp_astore, wp_iinc, wp_iconst, wp_dup, wp_dup2, wp_pop, wp_iadd, wp_isub, wp_imul, wp_idiv, wp_irem, wp_ineg, wp_iand, wp_ior, wp_ixor, wp_ishl, wp_ishr, wp_getI, wp_putI, wp_getR, wp_goto, wp_goto_w, wq_if_eq, wq_if_ne, wq_if_lt, wq_if_ge, wq_if_gt, wq_if_le, wq_icmp_eq, wq_icmp_ne, wq_icmp_lt, wq_icmp_ge, wq_icmp_gt, wq_icmp_le, wp_max, wp_min, kI_inl, kR_some, kN_inl, kO_some, KT_none, KT_some, List.length_cons, List.length_nil, Nat.reduceAdd, Nat.reduceLT, Nat.reduceLeDiff, Nat.reduceMod, Nat.reduceDiv, true_and, and_true, Int.reduceLE, Int.reduceNeg, Int.reduceLT, Int.cast_ofNat_Int, Nat.zero_le, zI, Int.reduceAdd, Int.reduceSub, Int.reduceMul, not_true_eq_false, not_false_eq_true, false_implies, true_implies, i01_0, i01_1, ite_not, ↓reduceIte, zget_0, zget_1, zget_2, zget_3, zget_4, zget_5, zget_6, zget_7, zget_8, zget_9, zget_10, zset_0, zset_1, zset_2, zset_3, zset_4, zset_5, zset_6, zset_7, zset_8, zset_9, zset_10, kd_171, rf_171_0, rf_171_1, rf_171_3, rf_171_4, rf_171_5, rf_171_6, rf_171_7, rf_171_8, rf_171_10, rf_171_13, rf_171_14, rf_171_15, rf_171_16, rf_171_17, rf_171_20, rf_171_21, rf_171_27, rf_171_28, rf_171_29, rf_171_30, rf_171_31, show ¬ 20 ≤ e by omega, if_false, c_onM, if_neg c1, if_true]
theorem fs_bd {A : Int → Int} (hg : MG A) (hb : 0 ≤ bu ∧ bu ≤ 20) : -1 ≤ fsM A bu ∧ fsM A bu ≤ 31 := by
  unfold fsM
  split
  · omega
  · have := (hg bu hb.1 (by omega)).2.2.2.2.2.2.2.2.1
    exact this
theorem c_isFreeN (hg : MG (im 172)) (hb : 0 ≤ bu ∧ bu ≤ 20) : CallP (d + 4) 203 [.inr (some 171), .inl bu, .inl v] im Q ↔ Q (some (.inl (if fuP (im 172) bu v then 1 else 0))) im := by
  have h1 := fun Q => c_firstOf (d := d + 2) (im := im) (bu := bu) (Q := Q) hb
  have h2 := fun Q => c_lastOf (d := d + 2) (im := im) (bu := bu) (Q := Q) hb
  have hbd := fs_bd hg hb
  by_cases c : fsM (im 172) bu + 1 ≤ v ∧ v ≤ lsM (im 172) bu
  · have hl := l_fu (d := d + 1) (im := im) (bu := bu) (v := v) 20 0 (by omega) (by omega) Q
    have e0 : (if fuP (im 172) bu v then (1 : Int) else 0) = if ff (nfB (im 172) bu v) 20 0 = -1 then 1 else 0 := by
      by_cases c2 : ff (nfB (im 172) bu v) 20 0 = -1
      · rw [if_pos c2, if_pos ⟨c, c2⟩]
      · rw [if_neg c2, if_neg (fun q => c2 q.2)]
    rw [e0]
    simp (disch := omega) only [en_203, pg_203_0, pg_203_21, cw_201, cw_202, cw_141, wp_iload, wp_aload, wp_istore, wp_astore, wp_iinc, wp_iconst, wp_dup, wp_dup2, wp_pop, wp_iadd, wp_isub, wp_imul, wp_idiv, wp_irem, wp_ineg, wp_iand, wp_ior, wp_ixor, wp_ishl, wp_ishr, wp_getI, wp_putI, wp_getR, wp_goto, wp_goto_w, wq_if_eq, wq_if_ne, wq_if_lt, wq_if_ge, wq_if_gt, wq_if_le, wq_icmp_eq, wq_icmp_ne, wq_icmp_lt, wq_icmp_ge, wq_icmp_gt, wq_icmp_le, wp_max, wp_min, kI_inl, kR_some, kN_inl, kO_some, KT_none, KT_some, List.length_cons, List.length_nil, Nat.reduceAdd, Nat.reduceLT, Nat.reduceLeDiff, Nat.reduceMod, Nat.reduceDiv, true_and, and_true, Int.reduceLE, Int.reduceNeg, Int.reduceLT, Int.cast_ofNat_Int, Nat.zero_le, zI, Int.reduceAdd, Int.reduceSub, Int.reduceMul, not_true_eq_false, not_false_eq_true, false_implies, true_implies, i01_0, i01_1, ite_not, ↓reduceIte, zget_0, zget_1, zget_2, zget_3, zget_4, zget_5, zget_6, zget_7, zget_8, zget_9, zget_10, zset_0, zset_1, zset_2, zset_3, zset_4, zset_5, zset_6, zset_7, zset_8, zset_9, zset_10, kd_171, rf_171_0, rf_171_1, rf_171_3, rf_171_4, rf_171_5, rf_171_6, rf_171_7, rf_171_8, rf_171_10, rf_171_13, rf_171_14, rf_171_15, rf_171_16, rf_171_17, rf_171_20, rf_171_21, rf_171_27, rf_171_28, rf_171_29, rf_171_30, rf_171_31, h1, h2, c_isIn, if_pos c]
    simp only [show ¬ (1 : Int) = 0 by omega, not_false_eq_true, if_true]
    refine (and_iff_right (by omega)).trans ?_
    exact hl
  · rw [if_neg (show ¬ fuP (im 172) bu v from fun q => c q.1)]
    simp (disch := omega) only [en_203, pg_203_0, pg_203_21, cw_201, cw_202, cw_141, wp_zreturn rk_203, wp_iload, wp_aload, wp_istore, wp_astore, wp_iinc, wp_iconst, wp_dup, wp_dup2, wp_pop, wp_iadd, wp_isub, wp_imul, wp_idiv, wp_irem, wp_ineg, wp_iand, wp_ior, wp_ixor, wp_ishl, wp_ishr, wp_getI, wp_putI, wp_getR, wp_goto, wp_goto_w, wq_if_eq, wq_if_ne, wq_if_lt, wq_if_ge, wq_if_gt, wq_if_le, wq_icmp_eq, wq_icmp_ne, wq_icmp_lt, wq_icmp_ge, wq_icmp_gt, wq_icmp_le, wp_max, wp_min, kI_inl, kR_some, kN_inl, kO_some, KT_none, KT_some, List.length_cons, List.length_nil, Nat.reduceAdd, Nat.reduceLT, Nat.reduceLeDiff, Nat.reduceMod, Nat.reduceDiv, true_and, and_true, Int.reduceLE, Int.reduceNeg, Int.reduceLT, Int.cast_ofNat_Int, Nat.zero_le, zI, Int.reduceAdd, Int.reduceSub, Int.reduceMul, not_true_eq_false, not_false_eq_true, false_implies, true_implies, i01_0, i01_1, ite_not, ↓reduceIte, zget_0, zget_1, zget_2, zget_3, zget_4, zget_5, zget_6, zget_7, zget_8, zget_9, zget_10, zset_0, zset_1, zset_2, zset_3, zset_4, zset_5, zset_6, zset_7, zset_8, zset_9, zset_10, kd_171, rf_171_0, rf_171_1, rf_171_3, rf_171_4, rf_171_5, rf_171_6, rf_171_7, rf_171_8, rf_171_10, rf_171_13, rf_171_14, rf_171_15, rf_171_16, rf_171_17, rf_171_20, rf_171_21, rf_171_27, rf_171_28, rf_171_29, rf_171_30, rf_171_31, h1, h2, c_isIn, if_neg c, not_true_eq_false, if_false, true_or, true_and]
    try (repeat (refine (and_iff_right (by omega)).trans ?_))
    try exact Iff.rfl
theorem l_lown (hg : MG (im 172)) (hb : 0 ≤ bu ∧ bu ≤ 20) : ∀ (n : Nat) (e : Int), 0 ≤ e → e + n = 32 → ∀ Q, wp none (d + 5) 204 (zpg 204 2) [.inr (some 171), .inl bu, .inl e] [] im Q ↔ Q (some (.inl (ff (fun v => decide (fuP (im 172) bu v)) n e))) im
  | 0, e, h0, h1, Q => by
    rw [pg_204_2]
    simp (disch := omega) only [wp_ireturn rk_204, pg_204_19, pg_204_25, cw_203, wp_iload, wp_aload, wp_istore, wp_astore, wp_iinc, wp_iconst, wp_dup, wp_dup2, wp_pop, wp_iadd, wp_isub, wp_imul, wp_idiv, wp_irem, wp_ineg, wp_iand, wp_ior, wp_ixor, wp_ishl, wp_ishr, wp_getI, wp_putI, wp_getR, wp_goto, wp_goto_w, wq_if_eq, wq_if_ne, wq_if_lt, wq_if_ge, wq_if_gt, wq_if_le, wq_icmp_eq, wq_icmp_ne, wq_icmp_lt, wq_icmp_ge, wq_icmp_gt, wq_icmp_le, wp_max, wp_min, kI_inl, kR_some, kN_inl, kO_some, KT_none, KT_some, List.length_cons, List.length_nil, Nat.reduceAdd, Nat.reduceLT, Nat.reduceLeDiff, Nat.reduceMod, Nat.reduceDiv, true_and, and_true, Int.reduceLE, Int.reduceNeg, Int.reduceLT, Int.cast_ofNat_Int, Nat.zero_le, zI, Int.reduceAdd, Int.reduceSub, Int.reduceMul, not_true_eq_false, not_false_eq_true, false_implies, true_implies, i01_0, i01_1, ite_not, ↓reduceIte, zget_0, zget_1, zget_2, zget_3, zget_4, zget_5, zget_6, zget_7, zget_8, zget_9, zget_10, zset_0, zset_1, zset_2, zset_3, zset_4, zset_5, zset_6, zset_7, zset_8, zset_9, zset_10, show 31 < e by omega, if_true, ff]
  | n + 1, e, h0, h1, Q => by
    have ih := l_lown hg hb n (e + 1) (by omega) (by omega) Q
    have hf := fun Q => c_isFreeN (d := d) (im := im) (bu := bu) (v := e) (Q := Q) hg hb
    rw [pg_204_2]
    by_cases c : fuP (im 172) bu e
    · have ec : ff (fun v => decide (fuP (im 172) bu v)) (n + 1) e = e := if_pos (decide_eq_true c)
      rw [ec]
      simp (disch := omega) only [wp_ireturn rk_204, pg_204_19, pg_204_25, cw_203, wp_iload, wp_aload, wp_istore, wp_astore, wp_iinc, wp_iconst, wp_dup, wp_dup2, wp_pop, wp_iadd, wp_isub, wp_imul, wp_idiv, wp_irem, wp_ineg, wp_iand, wp_ior, wp_ixor, wp_ishl, wp_ishr, wp_getI, wp_putI, wp_getR, wp_goto, wp_goto_w, wq_if_eq, wq_if_ne, wq_if_lt, wq_if_ge, wq_if_gt, wq_if_le, wq_icmp_eq, wq_icmp_ne, wq_icmp_lt, wq_icmp_ge, wq_icmp_gt, wq_icmp_le, wp_max, wp_min, kI_inl, kR_some, kN_inl, kO_some, KT_none, KT_some, List.length_cons, List.length_nil, Nat.reduceAdd, Nat.reduceLT, Nat.reduceLeDiff, Nat.reduceMod, Nat.reduceDiv, true_and, and_true, Int.reduceLE, Int.reduceNeg, Int.reduceLT, Int.cast_ofNat_Int, Nat.zero_le, zI, Int.reduceAdd, Int.reduceSub, Int.reduceMul, not_true_eq_false, not_false_eq_true, false_implies, true_implies, i01_0, i01_1, ite_not, ↓reduceIte, zget_0, zget_1, zget_2, zget_3, zget_4, zget_5, zget_6, zget_7, zget_8, zget_9, zget_10, zset_0, zset_1, zset_2, zset_3, zset_4, zset_5, zset_6, zset_7, zset_8, zset_9, zset_10, kd_171, rf_171_0, rf_171_1, rf_171_3, rf_171_4, rf_171_5, rf_171_6, rf_171_7, rf_171_8, rf_171_10, rf_171_13, rf_171_14, rf_171_15, rf_171_16, rf_171_17, rf_171_20, rf_171_21, rf_171_27, rf_171_28, rf_171_29, rf_171_30, rf_171_31, show ¬ 31 < e by omega, if_false, hf, if_pos c]
      try simp only [show ¬ (1 : Int) = 0 by omega, if_false]
    · have ec : ff (fun v => decide (fuP (im 172) bu v)) (n + 1) e = ff (fun v => decide (fuP (im 172) bu v)) n (e + 1) := if_neg (fun q => c (of_decide_eq_true q))
      rw [ec]
      simp (disch := omega) only [wp_ireturn rk_204, pg_204_19, pg_204_25, cw_203, wp_iload, wp_aload, wp_istore, wp_astore, wp_iinc, wp_iconst, wp_dup, wp_dup2, wp_pop, wp_iadd, wp_isub, wp_imul, wp_idiv, wp_irem, wp_ineg, wp_iand, wp_ior, wp_ixor, wp_ishl, wp_ishr, wp_getI, wp_putI, wp_getR, wp_goto, wp_goto_w, wq_if_eq, wq_if_ne, wq_if_lt, wq_if_ge, wq_if_gt, wq_if_le, wq_icmp_eq, wq_icmp_ne, wq_icmp_lt, wq_icmp_ge, wq_icmp_gt, wq_icmp_le, wp_max, wp_min, kI_inl, kR_some, kN_inl, kO_some, KT_none, KT_some, List.length_cons, List.length_nil, Nat.reduceAdd, Nat.reduceLT, Nat.reduceLeDiff, Nat.reduceMod, Nat.reduceDiv, true_and, and_true, Int.reduceLE, Int.reduceNeg, Int.reduceLT, Int.cast_ofNat_Int, Nat.zero_le, zI, Int.reduceAdd, Int.reduceSub, Int.reduceMul, not_true_eq_false, not_false_eq_true, false_implies, true_implies, i01_0, i01_1, ite_not, ↓reduceIte, zget_0, zget_1, zget_2, zget_3, zget_4, zget_5, zget_6, zget_7, zget_8, zget_9, zget_10, zset_0, zset_1, zset_2, zset_3, zset_4, zset_5, zset_6, zset_7, zset_8, zset_9, zset_10, kd_171, rf_171_0, rf_171_1, rf_171_3, rf_171_4, rf_171_5, rf_171_6, rf_171_7, rf_171_8, rf_171_10, rf_171_13, rf_171_14, rf_171_15, rf_171_16, rf_171_17, rf_171_20, rf_171_21, rf_171_27, rf_171_28, rf_171_29, rf_171_30, rf_171_31, show ¬ 31 < e by omega, if_false, hf, if_neg c, if_true]
      repeat (refine (and_iff_right (by omega)).trans ?_)
      exact ih
def lnM (A : Int → Int) (bu : Int) : Int := ff (fun v => decide (fuP A bu v)) 32 0
theorem c_lowestN (hg : MG (im 172)) (hb : 0 ≤ bu ∧ bu ≤ 20) : CallP (d + 5) 204 [.inr (some 171), .inl bu] im Q ↔ Q (some (.inl (lnM (im 172) bu))) im := by
  have hl := l_lown (d := d) (im := im) hg hb 32 0 (by omega) (by omega) Q
  simp (disch := omega) only [en_204, pg_204_0, wp_iload, wp_aload, wp_istore, wp_astore, wp_iinc, wp_iconst, wp_dup, wp_dup2, wp_pop, wp_iadd, wp_isub, wp_imul, wp_idiv, wp_irem, wp_ineg, wp_iand, wp_ior, wp_ixor, wp_ishl, wp_ishr, wp_getI, wp_putI, wp_getR, wp_goto, wp_goto_w, wq_if_eq, wq_if_ne, wq_if_lt, wq_if_ge, wq_if_gt, wq_if_le, wq_icmp_eq, wq_icmp_ne, wq_icmp_lt, wq_icmp_ge, wq_icmp_gt, wq_icmp_le, wp_max, wp_min, kI_inl, kR_some, kN_inl, kO_some, KT_none, KT_some, List.length_cons, List.length_nil, Nat.reduceAdd, Nat.reduceLT, Nat.reduceLeDiff, Nat.reduceMod, Nat.reduceDiv, true_and, and_true, Int.reduceLE, Int.reduceNeg, Int.reduceLT, Int.cast_ofNat_Int, Nat.zero_le, zI, Int.reduceAdd, Int.reduceSub, Int.reduceMul, not_true_eq_false, not_false_eq_true, false_implies, true_implies, i01_0, i01_1, ite_not, ↓reduceIte, zget_0, zget_1, zget_2, zget_3, zget_4, zget_5, zget_6, zget_7, zget_8, zget_9, zget_10, zset_0, zset_1, zset_2, zset_3, zset_4, zset_5, zset_6, zset_7, zset_8, zset_9, zset_10]
  exact hl
end MF
