/-! THE REFERENCE: would -/
section MZ4
variable {d : Nat} {im : zM} {Q : Option zV → zM → Prop} {a b v w dv kd sl i j k f e bu t o : Int}
theorem AgA_ps' : AgA (psM im) im (im 189) := by
  unfold psM
  refine ⟨fun p hp => ?_, ⟨?_, ?_⟩, fun j h0 h1 => ?_, ?_, ?_, ?_⟩
  · rw [setc_ne _ _ (by omega)]
  · rw [setc_ne _ _ (by omega)]
  · rw [setc_ne _ _ (by omega)]
  · rw [setc_at]
    unfold cpM2
    rw [if_pos ⟨h0, h1⟩]
  · rw [setc_ne _ _ (by omega)]
  · rw [setc_ne _ _ (by omega)]
  · rw [setc_ne _ _ (by omega)]
    exact id
def wmI (S A : Int → Int) (e a s : Int) : Int := if S (23 * e + 12 + a) ≠ A (23 * e + (12 + a)) then s + 1 else s
theorem wmI_bd {S A : Int → Int} {e : Int} : ∀ (n : Nat) (x s : Int), s ≤ lp (wmI S A e) n x s ∧ lp (wmI S A e) n x s ≤ s + n
  | 0, x, s => by simp only [lp]; omega
  | n + 1, x, s => by
    have := wmI_bd (S := S) (A := A) (e := e) n (x + 1) (wmI S A e x s)
    have e2 : s ≤ wmI S A e x s ∧ wmI S A e x s ≤ s + 1 := by
      unfold wmI
      split <;> omega
    simp only [lp]
    omega
theorem l_wdI {X : zM} {A S : Int → Int} {w : Int} {x2 x4 x5 : zV} (hA : X 172 = A) (hS : X 188 = S) (he : 0 ≤ e ∧ e < 20) (hm : A (23 * e + 5) ≤ 3) (hon : onM A e) (n : Nat) : ∀ (x s : Int), 0 ≤ x → x + n = A (23 * e + 5) → 0 ≤ s ∧ s + n ≤ 1000 → ∀ Q, wp none (d + 6) 257 (zpg 257 94) [.inr (some 171), .inl w, x2, .inl s, x4, x5, .inl e, .inl x] [] X Q ↔ wp none (d + 6) 257 (zpg 257 159) [.inr (some 171), .inl w, x2, .inl (lp (wmI S A e) n x s), x4, x5, .inl e, .inl (A (23 * e + 5))] [] X Q := by
  induction n with
  | zero =>
    intro x s h0 h1 hs Q
    conv => lhs; rw [pg_257_94]
    simp (disch := omega) only [wp_iload, wp_aload, wp_istore, wp_astore, wp_iinc, wp_iconst, wp_dup, wp_dup2, wp_pop, wp_iadd, wp_isub, wp_imul, wp_idiv, wp_irem, wp_ineg, wp_iand, wp_ior, wp_ixor, wp_ishl, wp_ishr, wp_getI, wp_putI, wp_getR, wp_goto, wp_goto_w, wq_if_eq, wq_if_ne, wq_if_lt, wq_if_ge, wq_if_gt, wq_if_le, wq_icmp_eq, wq_icmp_ne, wq_icmp_lt, wq_icmp_ge, wq_icmp_gt, wq_icmp_le, wp_max, wp_min, kI_inl, kR_some, kN_inl, kO_some, KT_none, KT_some, List.length_cons, List.length_nil, Nat.reduceAdd, Nat.reduceLT, Nat.reduceLeDiff, Nat.reduceMod, Nat.reduceDiv, true_and, and_true, Int.reduceLE, Int.reduceNeg, Int.reduceLT, Int.cast_ofNat_Int, Nat.zero_le, zI, Int.reduceAdd, Int.reduceSub, Int.reduceMul, not_true_eq_false, not_false_eq_true, false_implies, true_implies, i01_0, i01_1, ite_not, ↓reduceIte, zget_0, zget_1, zget_2, zget_3, zget_4, zget_5, zget_6, zget_7, zget_8, zget_9, zget_10, zset_0, zset_1, zset_2, zset_3, zset_4, zset_5, zset_6, zset_7, zset_8, zset_9, zset_10, kd_171, rf_171_0, rf_171_1, rf_171_3, rf_171_4, rf_171_5, rf_171_6, rf_171_7, rf_171_8, rf_171_10, rf_171_13, rf_171_14, rf_171_15, rf_171_16, rf_171_17, rf_171_20, rf_171_21, rf_171_27, rf_171_28, rf_171_29, rf_171_30, rf_171_31, cw_142, c_of, hA, show A (23 * e + 5) ≤ x by omega, if_true, lp]
    rw [show x = A (23 * e + 5) by omega]
  | succ n ih =>
    intro x s h0 h1 hs Q
    simp only [lp]
    by_cases c : S (23 * e + 12 + x) = A (23 * e + (12 + x))
    · have ec : wmI S A e x s = s := if_neg (fun q => q c)
      have ih := ih (x + 1) s (by omega) (by omega) (by omega) Q
      rw [ec, ← ih]
      conv => lhs; rw [pg_257_94]
      simp (disch := omega) only [wp_ireturn rk_257, pg_257_11, pg_257_72, pg_257_87, pg_257_88, pg_257_150, pg_257_151, pg_257_159, pg_257_165, pg_257_177, pg_257_186, pg_257_196, pg_257_198, cw_141, cw_142, cw_144, cw_147, cw_187, cw_252, cw_253, wp_iload, wp_aload, wp_istore, wp_astore, wp_iinc, wp_iconst, wp_dup, wp_dup2, wp_pop, wp_iadd, wp_isub, wp_imul, wp_idiv, wp_irem, wp_ineg, wp_iand, wp_ior, wp_ixor, wp_ishl, wp_ishr, wp_getI, wp_putI, wp_getR, wp_goto, wp_goto_w, wq_if_eq, wq_if_ne, wq_if_lt, wq_if_ge, wq_if_gt, wq_if_le, wq_icmp_eq, wq_icmp_ne, wq_icmp_lt, wq_icmp_ge, wq_icmp_gt, wq_icmp_le, wp_max, wp_min, kI_inl, kR_some, kN_inl, kO_some, KT_none, KT_some, List.length_cons, List.length_nil, Nat.reduceAdd, Nat.reduceLT, Nat.reduceLeDiff, Nat.reduceMod, Nat.reduceDiv, true_and, and_true, Int.reduceLE, Int.reduceNeg, Int.reduceLT, Int.cast_ofNat_Int, Nat.zero_le, zI, Int.reduceAdd, Int.reduceSub, Int.reduceMul, not_true_eq_false, not_false_eq_true, false_implies, true_implies, i01_0, i01_1, ite_not, ↓reduceIte, zget_0, zget_1, zget_2, zget_3, zget_4, zget_5, zget_6, zget_7, zget_8, zget_9, zget_10, zset_0, zset_1, zset_2, zset_3, zset_4, zset_5, zset_6, zset_7, zset_8, zset_9, zset_10, kd_171, rf_171_0, rf_171_1, rf_171_3, rf_171_4, rf_171_5, rf_171_6, rf_171_7, rf_171_8, rf_171_10, rf_171_13, rf_171_14, rf_171_15, rf_171_16, rf_171_17, rf_171_20, rf_171_21, rf_171_27, rf_171_28, rf_171_29, rf_171_30, rf_171_31, c_of, c_onM, hA, hS, if_pos hon, show ¬ A (23 * e + 5) ≤ x by omega, if_false, show ¬ (1 : Int) = 0 by omega, wp_iaload kd_188, c, if_true, not_true_eq_false]
      try simp only [Int.add_zero]
      try (repeat (refine (and_iff_right (by omega)).trans ?_))
      try exact Iff.rfl
    · have ec : wmI S A e x s = s + 1 := if_pos c
      have ih := ih (x + 1) (s + 1) (by omega) (by omega) (by omega) Q
      rw [ec, ← ih]
      conv => lhs; rw [pg_257_94]
      simp (disch := omega) only [wp_ireturn rk_257, pg_257_11, pg_257_72, pg_257_87, pg_257_88, pg_257_150, pg_257_151, pg_257_159, pg_257_165, pg_257_177, pg_257_186, pg_257_196, pg_257_198, cw_141, cw_142, cw_144, cw_147, cw_187, cw_252, cw_253, wp_iload, wp_aload, wp_istore, wp_astore, wp_iinc, wp_iconst, wp_dup, wp_dup2, wp_pop, wp_iadd, wp_isub, wp_imul, wp_idiv, wp_irem, wp_ineg, wp_iand, wp_ior, wp_ixor, wp_ishl, wp_ishr, wp_getI, wp_putI, wp_getR, wp_goto, wp_goto_w, wq_if_eq, wq_if_ne, wq_if_lt, wq_if_ge, wq_if_gt, wq_if_le, wq_icmp_eq, wq_icmp_ne, wq_icmp_lt, wq_icmp_ge, wq_icmp_gt, wq_icmp_le, wp_max, wp_min, kI_inl, kR_some, kN_inl, kO_some, KT_none, KT_some, List.length_cons, List.length_nil, Nat.reduceAdd, Nat.reduceLT, Nat.reduceLeDiff, Nat.reduceMod, Nat.reduceDiv, true_and, and_true, Int.reduceLE, Int.reduceNeg, Int.reduceLT, Int.cast_ofNat_Int, Nat.zero_le, zI, Int.reduceAdd, Int.reduceSub, Int.reduceMul, not_true_eq_false, not_false_eq_true, false_implies, true_implies, i01_0, i01_1, ite_not, ↓reduceIte, zget_0, zget_1, zget_2, zget_3, zget_4, zget_5, zget_6, zget_7, zget_8, zget_9, zget_10, zset_0, zset_1, zset_2, zset_3, zset_4, zset_5, zset_6, zset_7, zset_8, zset_9, zset_10, kd_171, rf_171_0, rf_171_1, rf_171_3, rf_171_4, rf_171_5, rf_171_6, rf_171_7, rf_171_8, rf_171_10, rf_171_13, rf_171_14, rf_171_15, rf_171_16, rf_171_17, rf_171_20, rf_171_21, rf_171_27, rf_171_28, rf_171_29, rf_171_30, rf_171_31, c_of, c_onM, hA, hS, if_pos hon, show ¬ A (23 * e + 5) ≤ x by omega, if_false, show ¬ (1 : Int) = 0 by omega, wp_iaload kd_188, c, if_true, not_false_eq_true]
      try (repeat (refine (and_iff_right (by omega)).trans ?_))
      try exact Iff.rfl
def wmF (S A : Int → Int) (e : Int) (y : Int × Int) : Int × Int := if S (23 * e + 4) ≠ 0 ∧ thM A e then (if onM A e then (lp (wmI S A e) (A (23 * e + 5)).toNat 0 y.1, y.2) else (y.1, y.2 + 1)) else y
theorem l_wd {X : zM} {A S : Int → Int} {w : Int} {x2 x5 : zV} (hA : X 172 = A) (hS : X 188 = S) (hg : MG A) (n : Nat) : ∀ (e : Int) (y : Int × Int) (x7 : zV), 0 ≤ e → e + n = 20 → (0 ≤ y.1 ∧ y.1 ≤ 3 * e) → (0 ≤ y.2 ∧ y.2 ≤ e) → ∃ x7', ∀ Q, wp none (d + 6) 257 (zpg 257 38) [.inr (some 171), .inl w, x2, .inl y.1, .inl y.2, x5, .inl e, x7] [] X Q ↔ wp none (d + 6) 257 (zpg 257 165) [.inr (some 171), .inl w, x2, .inl (lp (wmF S A) n e y).1, .inl (lp (wmF S A) n e y).2, x5, .inl 20, x7'] [] X Q := by
  induction n with
  | zero =>
    intro e y x7 h0 h1 h2 h3
    refine ⟨x7, fun Q => ?_⟩
    conv => lhs; rw [pg_257_38]
    simp (disch := omega) only [wp_iload, wp_aload, wp_istore, wp_astore, wp_iinc, wp_iconst, wp_dup, wp_dup2, wp_pop, wp_iadd, wp_isub, wp_imul, wp_idiv, wp_irem, wp_ineg, wp_iand, wp_ior, wp_ixor, wp_ishl, wp_ishr, wp_getI, wp_putI, wp_getR, wp_goto, wp_goto_w, wq_if_eq, wq_if_ne, wq_if_lt, wq_if_ge, wq_if_gt, wq_if_le, wq_icmp_eq, wq_icmp_ne, wq_icmp_lt, wq_icmp_ge, wq_icmp_gt, wq_icmp_le, wp_max, wp_min, kI_inl, kR_some, kN_inl, kO_some, KT_none, KT_some, List.length_cons, List.length_nil, Nat.reduceAdd, Nat.reduceLT, Nat.reduceLeDiff, Nat.reduceMod, Nat.reduceDiv, true_and, and_true, Int.reduceLE, Int.reduceNeg, Int.reduceLT, Int.cast_ofNat_Int, Nat.zero_le, zI, Int.reduceAdd, Int.reduceSub, Int.reduceMul, not_true_eq_false, not_false_eq_true, false_implies, true_implies, i01_0, i01_1, ite_not, ↓reduceIte, zget_0, zget_1, zget_2, zget_3, zget_4, zget_5, zget_6, zget_7, zget_8, zget_9, zget_10, zset_0, zset_1, zset_2, zset_3, zset_4, zset_5, zset_6, zset_7, zset_8, zset_9, zset_10, show 20 ≤ e by omega, if_true, lp]
    rw [show e = 20 by omega]
  | succ n ih =>
    intro e y x7 h0 h1 h2 h3
    have he : 0 ≤ e ∧ e < 20 := by omega
    have hm := MG_many hg he
    have e159 : ∀ (s z : Int) (x7 : zV) Q, wp none (d + 6) 257 (zpg 257 159) [.inr (some 171), .inl w, x2, .inl s, .inl z, x5, .inl e, x7] [] X Q ↔ wp none (d + 6) 257 (zpg 257 38) [.inr (some 171), .inl w, x2, .inl s, .inl z, x5, .inl (e + 1), x7] [] X Q := by
      intro s z x7 Q
      conv => lhs; rw [pg_257_159]
      simp (disch := omega) only [wp_iload, wp_aload, wp_istore, wp_astore, wp_iinc, wp_iconst, wp_dup, wp_dup2, wp_pop, wp_iadd, wp_isub, wp_imul, wp_idiv, wp_irem, wp_ineg, wp_iand, wp_ior, wp_ixor, wp_ishl, wp_ishr, wp_getI, wp_putI, wp_getR, wp_goto, wp_goto_w, wq_if_eq, wq_if_ne, wq_if_lt, wq_if_ge, wq_if_gt, wq_if_le, wq_icmp_eq, wq_icmp_ne, wq_icmp_lt, wq_icmp_ge, wq_icmp_gt, wq_icmp_le, wp_max, wp_min, kI_inl, kR_some, kN_inl, kO_some, KT_none, KT_some, List.length_cons, List.length_nil, Nat.reduceAdd, Nat.reduceLT, Nat.reduceLeDiff, Nat.reduceMod, Nat.reduceDiv, true_and, and_true, Int.reduceLE, Int.reduceNeg, Int.reduceLT, Int.cast_ofNat_Int, Nat.zero_le, zI, Int.reduceAdd, Int.reduceSub, Int.reduceMul, not_true_eq_false, not_false_eq_true, false_implies, true_implies, i01_0, i01_1, ite_not, ↓reduceIte, zget_0, zget_1, zget_2, zget_3, zget_4, zget_5, zget_6, zget_7, zget_8, zget_9, zget_10, zset_0, zset_1, zset_2, zset_3, zset_4, zset_5, zset_6, zset_7, zset_8, zset_9, zset_10]
      try (repeat (refine (and_iff_right (by omega)).trans ?_))
      try exact Iff.rfl
    simp only [lp]
    by_cases c1 : S (23 * e + 4) = 0
    · have ec : wmF S A e y = y := if_neg (fun q => q.1 c1)
      obtain ⟨x7', ih⟩ := ih (e + 1) y x7 (by omega) (by omega) (by omega) (by omega)
      refine ⟨x7', fun Q => ?_⟩
      rw [ec, ← ih, ← e159]
      conv => lhs; rw [pg_257_38]
      simp (disch := omega) only [wp_iload, wp_aload, wp_istore, wp_astore, wp_iinc, wp_iconst, wp_dup, wp_dup2, wp_pop, wp_iadd, wp_isub, wp_imul, wp_idiv, wp_irem, wp_ineg, wp_iand, wp_ior, wp_ixor, wp_ishl, wp_ishr, wp_getI, wp_putI, wp_getR, wp_goto, wp_goto_w, wq_if_eq, wq_if_ne, wq_if_lt, wq_if_ge, wq_if_gt, wq_if_le, wq_icmp_eq, wq_icmp_ne, wq_icmp_lt, wq_icmp_ge, wq_icmp_gt, wq_icmp_le, wp_max, wp_min, kI_inl, kR_some, kN_inl, kO_some, KT_none, KT_some, List.length_cons, List.length_nil, Nat.reduceAdd, Nat.reduceLT, Nat.reduceLeDiff, Nat.reduceMod, Nat.reduceDiv, true_and, and_true, Int.reduceLE, Int.reduceNeg, Int.reduceLT, Int.cast_ofNat_Int, Nat.zero_le, zI, Int.reduceAdd, Int.reduceSub, Int.reduceMul, not_true_eq_false, not_false_eq_true, false_implies, true_implies, i01_0, i01_1, ite_not, ↓reduceIte, zget_0, zget_1, zget_2, zget_3, zget_4, zget_5, zget_6, zget_7, zget_8, zget_9, zget_10, zset_0, zset_1, zset_2, zset_3, zset_4, zset_5, zset_6, zset_7, zset_8, zset_9, zset_10, kd_171, rf_171_0, rf_171_1, rf_171_3, rf_171_4, rf_171_5, rf_171_6, rf_171_7, rf_171_8, rf_171_10, rf_171_13, rf_171_14, rf_171_15, rf_171_16, rf_171_17, rf_171_20, rf_171_21, rf_171_27, rf_171_28, rf_171_29, rf_171_30, rf_171_31, show ¬ 20 ≤ e by omega, if_false, wp_iaload kd_188, hS, c1, if_true]
      try (repeat (refine (and_iff_right (by omega)).trans ?_))
      try exact Iff.rfl
    · by_cases c2 : thM A e
      · by_cases c3 : onM A e
        · have ec : wmF S A e y = (lp (wmI S A e) (A (23 * e + 5)).toNat 0 y.1, y.2) := by
            unfold wmF
            rw [if_pos ⟨c1, c2⟩, if_pos c3]
          have hbd := wmI_bd (S := S) (A := A) (e := e) (A (23 * e + 5)).toNat 0 y.1
          obtain ⟨x7', ih⟩ := ih (e + 1) (lp (wmI S A e) (A (23 * e + 5)).toNat 0 y.1, y.2) (.inl (A (23 * e + 5))) (by omega) (by omega) (by dsimp only; omega) (by dsimp only; omega)
          refine ⟨x7', fun Q => ?_⟩
          have hI := fun x4 Q => l_wdI (d := d) (X := X) (w := w) (x2 := x2) (x4 := x4) (x5 := x5) (Q := Q) hA hS he hm.2 c3 (A (23 * e + 5)).toNat 0 y.1 (by omega) (by omega) (by omega)
          rw [ec, ← ih]
          dsimp only
          rw [← e159, ← hI]
          conv => lhs; rw [pg_257_38]
          simp (disch := omega) only [pg_257_72, pg_257_87, pg_257_88, cw_144, cw_147, wp_iload, wp_aload, wp_istore, wp_astore, wp_iinc, wp_iconst, wp_dup, wp_dup2, wp_pop, wp_iadd, wp_isub, wp_imul, wp_idiv, wp_irem, wp_ineg, wp_iand, wp_ior, wp_ixor, wp_ishl, wp_ishr, wp_getI, wp_putI, wp_getR, wp_goto, wp_goto_w, wq_if_eq, wq_if_ne, wq_if_lt, wq_if_ge, wq_if_gt, wq_if_le, wq_icmp_eq, wq_icmp_ne, wq_icmp_lt, wq_icmp_ge, wq_icmp_gt, wq_icmp_le, wp_max, wp_min, kI_inl, kR_some, kN_inl, kO_some, KT_none, KT_some, List.length_cons, List.length_nil, Nat.reduceAdd, Nat.reduceLT, Nat.reduceLeDiff, Nat.reduceMod, Nat.reduceDiv, true_and, and_true, Int.reduceLE, Int.reduceNeg, Int.reduceLT, Int.cast_ofNat_Int, Nat.zero_le, zI, Int.reduceAdd, Int.reduceSub, Int.reduceMul, not_true_eq_false, not_false_eq_true, false_implies, true_implies, i01_0, i01_1, ite_not, ↓reduceIte, zget_0, zget_1, zget_2, zget_3, zget_4, zget_5, zget_6, zget_7, zget_8, zget_9, zget_10, zset_0, zset_1, zset_2, zset_3, zset_4, zset_5, zset_6, zset_7, zset_8, zset_9, zset_10, kd_171, rf_171_0, rf_171_1, rf_171_3, rf_171_4, rf_171_5, rf_171_6, rf_171_7, rf_171_8, rf_171_10, rf_171_13, rf_171_14, rf_171_15, rf_171_16, rf_171_17, rf_171_20, rf_171_21, rf_171_27, rf_171_28, rf_171_29, rf_171_30, rf_171_31, show ¬ 20 ≤ e by omega, if_false, wp_iaload kd_188, hS, hA, c1, c_thM, c_onM, if_pos c2, if_pos c3, show ¬ (1 : Int) = 0 by omega, not_false_eq_true, if_true, Int.add_zero]
          try (repeat (refine (and_iff_right (by omega)).trans ?_))
          try exact Iff.rfl
        · have ec : wmF S A e y = (y.1, y.2 + 1) := by
            unfold wmF
            rw [if_pos ⟨c1, c2⟩, if_neg c3]
          obtain ⟨x7', ih⟩ := ih (e + 1) (y.1, y.2 + 1) (.inl 0) (by omega) (by omega) (by dsimp only; omega) (by dsimp only; omega)
          refine ⟨x7', fun Q => ?_⟩
          rw [ec, ← ih]
          dsimp only
          rw [← e159]
          have e94 : ∀ Q, wp none (d + 6) 257 (zpg 257 94) [.inr (some 171), .inl w, x2, .inl y.1, .inl (y.2 + 1), x5, .inl e, .inl 0] [] X Q ↔ wp none (d + 6) 257 (zpg 257 159) [.inr (some 171), .inl w, x2, .inl y.1, .inl (y.2 + 1), x5, .inl e, .inl 0] [] X Q := by
            intro Q
            conv => lhs; rw [pg_257_94]
            by_cases c5 : A (23 * e + 5) ≤ 0
            · simp (disch := omega) only [cw_142, wp_iload, wp_aload, wp_istore, wp_astore, wp_iinc, wp_iconst, wp_dup, wp_dup2, wp_pop, wp_iadd, wp_isub, wp_imul, wp_idiv, wp_irem, wp_ineg, wp_iand, wp_ior, wp_ixor, wp_ishl, wp_ishr, wp_getI, wp_putI, wp_getR, wp_goto, wp_goto_w, wq_if_eq, wq_if_ne, wq_if_lt, wq_if_ge, wq_if_gt, wq_if_le, wq_icmp_eq, wq_icmp_ne, wq_icmp_lt, wq_icmp_ge, wq_icmp_gt, wq_icmp_le, wp_max, wp_min, kI_inl, kR_some, kN_inl, kO_some, KT_none, KT_some, List.length_cons, List.length_nil, Nat.reduceAdd, Nat.reduceLT, Nat.reduceLeDiff, Nat.reduceMod, Nat.reduceDiv, true_and, and_true, Int.reduceLE, Int.reduceNeg, Int.reduceLT, Int.cast_ofNat_Int, Nat.zero_le, zI, Int.reduceAdd, Int.reduceSub, Int.reduceMul, not_true_eq_false, not_false_eq_true, false_implies, true_implies, i01_0, i01_1, ite_not, ↓reduceIte, zget_0, zget_1, zget_2, zget_3, zget_4, zget_5, zget_6, zget_7, zget_8, zget_9, zget_10, zset_0, zset_1, zset_2, zset_3, zset_4, zset_5, zset_6, zset_7, zset_8, zset_9, zset_10, kd_171, rf_171_0, rf_171_1, rf_171_3, rf_171_4, rf_171_5, rf_171_6, rf_171_7, rf_171_8, rf_171_10, rf_171_13, rf_171_14, rf_171_15, rf_171_16, rf_171_17, rf_171_20, rf_171_21, rf_171_27, rf_171_28, rf_171_29, rf_171_30, rf_171_31, c_of, hA, c5, if_true]
            · simp (disch := omega) only [cw_142, cw_147, wp_iload, wp_aload, wp_istore, wp_astore, wp_iinc, wp_iconst, wp_dup, wp_dup2, wp_pop, wp_iadd, wp_isub, wp_imul, wp_idiv, wp_irem, wp_ineg, wp_iand, wp_ior, wp_ixor, wp_ishl, wp_ishr, wp_getI, wp_putI, wp_getR, wp_goto, wp_goto_w, wq_if_eq, wq_if_ne, wq_if_lt, wq_if_ge, wq_if_gt, wq_if_le, wq_icmp_eq, wq_icmp_ne, wq_icmp_lt, wq_icmp_ge, wq_icmp_gt, wq_icmp_le, wp_max, wp_min, kI_inl, kR_some, kN_inl, kO_some, KT_none, KT_some, List.length_cons, List.length_nil, Nat.reduceAdd, Nat.reduceLT, Nat.reduceLeDiff, Nat.reduceMod, Nat.reduceDiv, true_and, and_true, Int.reduceLE, Int.reduceNeg, Int.reduceLT, Int.cast_ofNat_Int, Nat.zero_le, zI, Int.reduceAdd, Int.reduceSub, Int.reduceMul, not_true_eq_false, not_false_eq_true, false_implies, true_implies, i01_0, i01_1, ite_not, ↓reduceIte, zget_0, zget_1, zget_2, zget_3, zget_4, zget_5, zget_6, zget_7, zget_8, zget_9, zget_10, zset_0, zset_1, zset_2, zset_3, zset_4, zset_5, zset_6, zset_7, zset_8, zset_9, zset_10, kd_171, rf_171_0, rf_171_1, rf_171_3, rf_171_4, rf_171_5, rf_171_6, rf_171_7, rf_171_8, rf_171_10, rf_171_13, rf_171_14, rf_171_15, rf_171_16, rf_171_17, rf_171_20, rf_171_21, rf_171_27, rf_171_28, rf_171_29, rf_171_30, rf_171_31, c_of, c_onM, hA, c5, if_false, if_neg c3, if_true]
          rw [← e94]
          conv => lhs; rw [pg_257_38]
          simp (disch := omega) only [pg_257_72, pg_257_87, pg_257_88, cw_144, cw_147, wp_iload, wp_aload, wp_istore, wp_astore, wp_iinc, wp_iconst, wp_dup, wp_dup2, wp_pop, wp_iadd, wp_isub, wp_imul, wp_idiv, wp_irem, wp_ineg, wp_iand, wp_ior, wp_ixor, wp_ishl, wp_ishr, wp_getI, wp_putI, wp_getR, wp_goto, wp_goto_w, wq_if_eq, wq_if_ne, wq_if_lt, wq_if_ge, wq_if_gt, wq_if_le, wq_icmp_eq, wq_icmp_ne, wq_icmp_lt, wq_icmp_ge, wq_icmp_gt, wq_icmp_le, wp_max, wp_min, kI_inl, kR_some, kN_inl, kO_some, KT_none, KT_some, List.length_cons, List.length_nil, Nat.reduceAdd, Nat.reduceLT, Nat.reduceLeDiff, Nat.reduceMod, Nat.reduceDiv, true_and, and_true, Int.reduceLE, Int.reduceNeg, Int.reduceLT, Int.cast_ofNat_Int, Nat.zero_le, zI, Int.reduceAdd, Int.reduceSub, Int.reduceMul, not_true_eq_false, not_false_eq_true, false_implies, true_implies, i01_0, i01_1, ite_not, ↓reduceIte, zget_0, zget_1, zget_2, zget_3, zget_4, zget_5, zget_6, zget_7, zget_8, zget_9, zget_10, zset_0, zset_1, zset_2, zset_3, zset_4, zset_5, zset_6, zset_7, zset_8, zset_9, zset_10, kd_171, rf_171_0, rf_171_1, rf_171_3, rf_171_4, rf_171_5, rf_171_6, rf_171_7, rf_171_8, rf_171_10, rf_171_13, rf_171_14, rf_171_15, rf_171_16, rf_171_17, rf_171_20, rf_171_21, rf_171_27, rf_171_28, rf_171_29, rf_171_30, rf_171_31, show ¬ 20 ≤ e by omega, if_false, wp_iaload kd_188, hS, hA, c1, c_thM, c_onM, if_pos c2, if_neg c3, show ¬ (1 : Int) = 0 by omega, not_false_eq_true, if_true]
          try (repeat (refine (and_iff_right (by omega)).trans ?_))
          try exact Iff.rfl
      · have ec : wmF S A e y = y := if_neg (fun q => c2 q.2)
        obtain ⟨x7', ih⟩ := ih (e + 1) y x7 (by omega) (by omega) (by omega) (by omega)
        refine ⟨x7', fun Q => ?_⟩
        rw [ec, ← ih, ← e159]
        conv => lhs; rw [pg_257_38]
        simp (disch := omega) only [cw_144, wp_iload, wp_aload, wp_istore, wp_astore, wp_iinc, wp_iconst, wp_dup, wp_dup2, wp_pop, wp_iadd, wp_isub, wp_imul, wp_idiv, wp_irem, wp_ineg, wp_iand, wp_ior, wp_ixor, wp_ishl, wp_ishr, wp_getI, wp_putI, wp_getR, wp_goto, wp_goto_w, wq_if_eq, wq_if_ne, wq_if_lt, wq_if_ge, wq_if_gt, wq_if_le, wq_icmp_eq, wq_icmp_ne, wq_icmp_lt, wq_icmp_ge, wq_icmp_gt, wq_icmp_le, wp_max, wp_min, kI_inl, kR_some, kN_inl, kO_some, KT_none, KT_some, List.length_cons, List.length_nil, Nat.reduceAdd, Nat.reduceLT, Nat.reduceLeDiff, Nat.reduceMod, Nat.reduceDiv, true_and, and_true, Int.reduceLE, Int.reduceNeg, Int.reduceLT, Int.cast_ofNat_Int, Nat.zero_le, zI, Int.reduceAdd, Int.reduceSub, Int.reduceMul, not_true_eq_false, not_false_eq_true, false_implies, true_implies, i01_0, i01_1, ite_not, ↓reduceIte, zget_0, zget_1, zget_2, zget_3, zget_4, zget_5, zget_6, zget_7, zget_8, zget_9, zget_10, zset_0, zset_1, zset_2, zset_3, zset_4, zset_5, zset_6, zset_7, zset_8, zset_9, zset_10, kd_171, rf_171_0, rf_171_1, rf_171_3, rf_171_4, rf_171_5, rf_171_6, rf_171_7, rf_171_8, rf_171_10, rf_171_13, rf_171_14, rf_171_15, rf_171_16, rf_171_17, rf_171_20, rf_171_21, rf_171_27, rf_171_28, rf_171_29, rf_171_30, rf_171_31, show ¬ 20 ≤ e by omega, if_false, wp_iaload kd_188, hS, hA, c1, c_thM, if_neg c2, not_true_eq_false]
        try (repeat (refine (and_iff_right (by omega)).trans ?_))
        try exact Iff.rfl
def wdR (im : zM) : Int × Int := lp (wmF (cpM2 (im 188) (im 172) 0) (goA (psM im))) 20 0 (0, 0)
theorem c_wouldM (hX : 0 ≤ w ∧ w ≤ 3 → GoP (psM im)) (hg : 0 ≤ w ∧ w ≤ 3 → MG (goA (psM im))) : CallP (d + 6) 257 [.inr (some 171), .inl w] im (fun r Y => r = some (.inl (if 0 ≤ w ∧ w ≤ 3 then (if w = 0 then gpC (psM im) else if w = 1 then (wdR im).1 else if w = 2 then (wdR im).2 else goA (psM im) 462) else -1)) ∧ AgE Y im) := by
  have hz : AgE im im := ⟨fun _ _ => rfl, ⟨rfl, rfl⟩, fun _ _ _ => rfl, rfl, id⟩
  by_cases c1 : 0 ≤ w ∧ w ≤ 3
  · have hps := fun Q => c_putAside (d := d + 4) (im := im) (Q := Q)
    have hgp := fun Q => h_gp (d := d) (X := psM im) (Q := Q) (hX c1)
    have hgp' : ∀ Q, CallP (d + 5) 187 [.inr (some 171)] (setc im 188 (cpM2 (im 188) (im 172) 0)) Q ↔ Q (some (.inl (gpC (psM im)))) (gpM (psM im)) := hgp
    have hA' : AgA (gpM (psM im)) im (im 189) := AgA_gp (hX c1) AgA_ps'
    have hE := AgA_end hA'
    have hbr := fun Q => c_bringBack (d := d + 4) (im := gpM (psM im)) (Q := Q)
    have hE' : AgE (setc (gpM (psM im)) 172 (cpM2 (goA (psM im)) (gpM (psM im) 188) 0)) im := by
      unfold cb2 at hE
      rw [gpM_A] at hE
      exact hE
    have e188 : gpM (psM im) 188 = cpM2 (im 188) (im 172) 0 := by
      rw [gpM_o (by omega)]
      unfold psM
      rw [setc_at]
    have hl := l_wd (d := d) (X := gpM (psM im)) (w := w) (x2 := .inl (gpC (psM im))) (x5 := .inl (goA (psM im) 462)) gpM_A e188 (hg c1) 20 0 (0, 0) (.inr none) (by omega) (by omega) (by dsimp only; omega) (by dsimp only; omega)
    obtain ⟨x7', hl⟩ := hl
    have hl' : ∀ Q, wp none (d + 6) 257 (zpg 257 38) [.inr (some 171), .inl w, .inl (gpC (psM im)), .inl 0, .inl 0, .inl (goA (psM im) 462), .inl 0, .inr none] [] (gpM (psM im)) Q ↔ wp none (d + 6) 257 (zpg 257 165) [.inr (some 171), .inl w, .inl (gpC (psM im)), .inl (wdR im).1, .inl (wdR im).2, .inl (goA (psM im) 462), .inl 20, x7'] [] (gpM (psM im)) Q := hl
    rw [if_pos c1]
    simp (disch := omega) only [en_257, pg_257_0, pg_257_11, cw_141, cw_252, cw_187, wp_iload, wp_aload, wp_istore, wp_astore, wp_iinc, wp_iconst, wp_dup, wp_dup2, wp_pop, wp_iadd, wp_isub, wp_imul, wp_idiv, wp_irem, wp_ineg, wp_iand, wp_ior, wp_ixor, wp_ishl, wp_ishr, wp_getI, wp_putI, wp_getR, wp_goto, wp_goto_w, wq_if_eq, wq_if_ne, wq_if_lt, wq_if_ge, wq_if_gt, wq_if_le, wq_icmp_eq, wq_icmp_ne, wq_icmp_lt, wq_icmp_ge, wq_icmp_gt, wq_icmp_le, wp_max, wp_min, kI_inl, kR_some, kN_inl, kO_some, KT_none, KT_some, List.length_cons, List.length_nil, Nat.reduceAdd, Nat.reduceLT, Nat.reduceLeDiff, Nat.reduceMod, Nat.reduceDiv, true_and, and_true, Int.reduceLE, Int.reduceNeg, Int.reduceLT, Int.cast_ofNat_Int, Nat.zero_le, zI, Int.reduceAdd, Int.reduceSub, Int.reduceMul, not_true_eq_false, not_false_eq_true, false_implies, true_implies, i01_0, i01_1, ite_not, ↓reduceIte, zget_0, zget_1, zget_2, zget_3, zget_4, zget_5, zget_6, zget_7, zget_8, zget_9, zget_10, zset_0, zset_1, zset_2, zset_3, zset_4, zset_5, zset_6, zset_7, zset_8, zset_9, zset_10, kd_171, rf_171_0, rf_171_1, rf_171_3, rf_171_4, rf_171_5, rf_171_6, rf_171_7, rf_171_8, rf_171_10, rf_171_13, rf_171_14, rf_171_15, rf_171_16, rf_171_17, rf_171_20, rf_171_21, rf_171_27, rf_171_28, rf_171_29, rf_171_30, rf_171_31, c_isIn, if_pos c1, show ¬ (1 : Int) = 0 by omega, not_false_eq_true, if_true, if_false, hps, hgp', wp_iaload kd_172, gpM_A]
    refine (hl' _).mpr ?_
    rw [pg_257_165]
    rcases (show w = 0 ∨ w = 1 ∨ w = 2 ∨ w = 3 by omega) with rfl | rfl | rfl | rfl
    · simp (disch := omega) only [wp_ireturn rk_257, pg_257_11, pg_257_72, pg_257_87, pg_257_88, pg_257_150, pg_257_151, pg_257_159, pg_257_165, pg_257_177, pg_257_186, pg_257_196, pg_257_198, cw_141, cw_142, cw_144, cw_147, cw_187, cw_252, cw_253, cw_253, wp_iload, wp_aload, wp_istore, wp_astore, wp_iinc, wp_iconst, wp_dup, wp_dup2, wp_pop, wp_iadd, wp_isub, wp_imul, wp_idiv, wp_irem, wp_ineg, wp_iand, wp_ior, wp_ixor, wp_ishl, wp_ishr, wp_getI, wp_putI, wp_getR, wp_goto, wp_goto_w, wq_if_eq, wq_if_ne, wq_if_lt, wq_if_ge, wq_if_gt, wq_if_le, wq_icmp_eq, wq_icmp_ne, wq_icmp_lt, wq_icmp_ge, wq_icmp_gt, wq_icmp_le, wp_max, wp_min, kI_inl, kR_some, kN_inl, kO_some, KT_none, KT_some, List.length_cons, List.length_nil, Nat.reduceAdd, Nat.reduceLT, Nat.reduceLeDiff, Nat.reduceMod, Nat.reduceDiv, true_and, and_true, Int.reduceLE, Int.reduceNeg, Int.reduceLT, Int.cast_ofNat_Int, Nat.zero_le, zI, Int.reduceAdd, Int.reduceSub, Int.reduceMul, not_true_eq_false, not_false_eq_true, false_implies, true_implies, i01_0, i01_1, ite_not, ↓reduceIte, zget_0, zget_1, zget_2, zget_3, zget_4, zget_5, zget_6, zget_7, zget_8, zget_9, zget_10, zset_0, zset_1, zset_2, zset_3, zset_4, zset_5, zset_6, zset_7, zset_8, zset_9, zset_10, kd_171, rf_171_0, rf_171_1, rf_171_3, rf_171_4, rf_171_5, rf_171_6, rf_171_7, rf_171_8, rf_171_10, rf_171_13, rf_171_14, rf_171_15, rf_171_16, rf_171_17, rf_171_20, rf_171_21, rf_171_27, rf_171_28, rf_171_29, rf_171_30, rf_171_31, hbr, gpM_A, not_true_eq_false, if_true, if_false]
      exact hE'
    · simp (disch := omega) only [wp_ireturn rk_257, pg_257_11, pg_257_72, pg_257_87, pg_257_88, pg_257_150, pg_257_151, pg_257_159, pg_257_165, pg_257_177, pg_257_186, pg_257_196, pg_257_198, cw_141, cw_142, cw_144, cw_147, cw_187, cw_252, cw_253, cw_253, wp_iload, wp_aload, wp_istore, wp_astore, wp_iinc, wp_iconst, wp_dup, wp_dup2, wp_pop, wp_iadd, wp_isub, wp_imul, wp_idiv, wp_irem, wp_ineg, wp_iand, wp_ior, wp_ixor, wp_ishl, wp_ishr, wp_getI, wp_putI, wp_getR, wp_goto, wp_goto_w, wq_if_eq, wq_if_ne, wq_if_lt, wq_if_ge, wq_if_gt, wq_if_le, wq_icmp_eq, wq_icmp_ne, wq_icmp_lt, wq_icmp_ge, wq_icmp_gt, wq_icmp_le, wp_max, wp_min, kI_inl, kR_some, kN_inl, kO_some, KT_none, KT_some, List.length_cons, List.length_nil, Nat.reduceAdd, Nat.reduceLT, Nat.reduceLeDiff, Nat.reduceMod, Nat.reduceDiv, true_and, and_true, Int.reduceLE, Int.reduceNeg, Int.reduceLT, Int.cast_ofNat_Int, Nat.zero_le, zI, Int.reduceAdd, Int.reduceSub, Int.reduceMul, not_true_eq_false, not_false_eq_true, false_implies, true_implies, i01_0, i01_1, ite_not, ↓reduceIte, zget_0, zget_1, zget_2, zget_3, zget_4, zget_5, zget_6, zget_7, zget_8, zget_9, zget_10, zset_0, zset_1, zset_2, zset_3, zset_4, zset_5, zset_6, zset_7, zset_8, zset_9, zset_10, kd_171, rf_171_0, rf_171_1, rf_171_3, rf_171_4, rf_171_5, rf_171_6, rf_171_7, rf_171_8, rf_171_10, rf_171_13, rf_171_14, rf_171_15, rf_171_16, rf_171_17, rf_171_20, rf_171_21, rf_171_27, rf_171_28, rf_171_29, rf_171_30, rf_171_31, hbr, gpM_A, not_true_eq_false, show ¬ (1 : Int) = 0 by omega, not_false_eq_true, if_true, if_false]
      exact hE'
    · simp (disch := omega) only [wp_ireturn rk_257, pg_257_11, pg_257_72, pg_257_87, pg_257_88, pg_257_150, pg_257_151, pg_257_159, pg_257_165, pg_257_177, pg_257_186, pg_257_196, pg_257_198, cw_141, cw_142, cw_144, cw_147, cw_187, cw_252, cw_253, cw_253, wp_iload, wp_aload, wp_istore, wp_astore, wp_iinc, wp_iconst, wp_dup, wp_dup2, wp_pop, wp_iadd, wp_isub, wp_imul, wp_idiv, wp_irem, wp_ineg, wp_iand, wp_ior, wp_ixor, wp_ishl, wp_ishr, wp_getI, wp_putI, wp_getR, wp_goto, wp_goto_w, wq_if_eq, wq_if_ne, wq_if_lt, wq_if_ge, wq_if_gt, wq_if_le, wq_icmp_eq, wq_icmp_ne, wq_icmp_lt, wq_icmp_ge, wq_icmp_gt, wq_icmp_le, wp_max, wp_min, kI_inl, kR_some, kN_inl, kO_some, KT_none, KT_some, List.length_cons, List.length_nil, Nat.reduceAdd, Nat.reduceLT, Nat.reduceLeDiff, Nat.reduceMod, Nat.reduceDiv, true_and, and_true, Int.reduceLE, Int.reduceNeg, Int.reduceLT, Int.cast_ofNat_Int, Nat.zero_le, zI, Int.reduceAdd, Int.reduceSub, Int.reduceMul, not_true_eq_false, not_false_eq_true, false_implies, true_implies, i01_0, i01_1, ite_not, ↓reduceIte, zget_0, zget_1, zget_2, zget_3, zget_4, zget_5, zget_6, zget_7, zget_8, zget_9, zget_10, zset_0, zset_1, zset_2, zset_3, zset_4, zset_5, zset_6, zset_7, zset_8, zset_9, zset_10, kd_171, rf_171_0, rf_171_1, rf_171_3, rf_171_4, rf_171_5, rf_171_6, rf_171_7, rf_171_8, rf_171_10, rf_171_13, rf_171_14, rf_171_15, rf_171_16, rf_171_17, rf_171_20, rf_171_21, rf_171_27, rf_171_28, rf_171_29, rf_171_30, rf_171_31, hbr, gpM_A, not_true_eq_false, show ¬ (2 : Int) = 0 by omega, show ¬ (2 : Int) = 1 by omega, not_false_eq_true, if_true, if_false]
      exact hE'
    · simp (disch := omega) only [wp_ireturn rk_257, pg_257_11, pg_257_72, pg_257_87, pg_257_88, pg_257_150, pg_257_151, pg_257_159, pg_257_165, pg_257_177, pg_257_186, pg_257_196, pg_257_198, cw_141, cw_142, cw_144, cw_147, cw_187, cw_252, cw_253, cw_253, wp_iload, wp_aload, wp_istore, wp_astore, wp_iinc, wp_iconst, wp_dup, wp_dup2, wp_pop, wp_iadd, wp_isub, wp_imul, wp_idiv, wp_irem, wp_ineg, wp_iand, wp_ior, wp_ixor, wp_ishl, wp_ishr, wp_getI, wp_putI, wp_getR, wp_goto, wp_goto_w, wq_if_eq, wq_if_ne, wq_if_lt, wq_if_ge, wq_if_gt, wq_if_le, wq_icmp_eq, wq_icmp_ne, wq_icmp_lt, wq_icmp_ge, wq_icmp_gt, wq_icmp_le, wp_max, wp_min, kI_inl, kR_some, kN_inl, kO_some, KT_none, KT_some, List.length_cons, List.length_nil, Nat.reduceAdd, Nat.reduceLT, Nat.reduceLeDiff, Nat.reduceMod, Nat.reduceDiv, true_and, and_true, Int.reduceLE, Int.reduceNeg, Int.reduceLT, Int.cast_ofNat_Int, Nat.zero_le, zI, Int.reduceAdd, Int.reduceSub, Int.reduceMul, not_true_eq_false, not_false_eq_true, false_implies, true_implies, i01_0, i01_1, ite_not, ↓reduceIte, zget_0, zget_1, zget_2, zget_3, zget_4, zget_5, zget_6, zget_7, zget_8, zget_9, zget_10, zset_0, zset_1, zset_2, zset_3, zset_4, zset_5, zset_6, zset_7, zset_8, zset_9, zset_10, kd_171, rf_171_0, rf_171_1, rf_171_3, rf_171_4, rf_171_5, rf_171_6, rf_171_7, rf_171_8, rf_171_10, rf_171_13, rf_171_14, rf_171_15, rf_171_16, rf_171_17, rf_171_20, rf_171_21, rf_171_27, rf_171_28, rf_171_29, rf_171_30, rf_171_31, hbr, gpM_A, not_true_eq_false, show ¬ (3 : Int) = 0 by omega, show ¬ (3 : Int) = 1 by omega, show ¬ (3 : Int) = 2 by omega, not_false_eq_true, if_true, if_false]
      exact hE'
  · rw [if_neg c1]
    simp (disch := omega) only [en_257, wp_ireturn rk_257, pg_257_0, pg_257_11, pg_257_72, pg_257_87, pg_257_88, pg_257_150, pg_257_151, pg_257_159, pg_257_165, pg_257_177, pg_257_186, pg_257_196, pg_257_198, cw_141, cw_142, cw_144, cw_147, cw_187, cw_252, cw_253, wp_iload, wp_aload, wp_istore, wp_astore, wp_iinc, wp_iconst, wp_dup, wp_dup2, wp_pop, wp_iadd, wp_isub, wp_imul, wp_idiv, wp_irem, wp_ineg, wp_iand, wp_ior, wp_ixor, wp_ishl, wp_ishr, wp_getI, wp_putI, wp_getR, wp_goto, wp_goto_w, wq_if_eq, wq_if_ne, wq_if_lt, wq_if_ge, wq_if_gt, wq_if_le, wq_icmp_eq, wq_icmp_ne, wq_icmp_lt, wq_icmp_ge, wq_icmp_gt, wq_icmp_le, wp_max, wp_min, kI_inl, kR_some, kN_inl, kO_some, KT_none, KT_some, List.length_cons, List.length_nil, Nat.reduceAdd, Nat.reduceLT, Nat.reduceLeDiff, Nat.reduceMod, Nat.reduceDiv, true_and, and_true, Int.reduceLE, Int.reduceNeg, Int.reduceLT, Int.cast_ofNat_Int, Nat.zero_le, zI, Int.reduceAdd, Int.reduceSub, Int.reduceMul, not_true_eq_false, not_false_eq_true, false_implies, true_implies, i01_0, i01_1, ite_not, ↓reduceIte, zget_0, zget_1, zget_2, zget_3, zget_4, zget_5, zget_6, zget_7, zget_8, zget_9, zget_10, zset_0, zset_1, zset_2, zset_3, zset_4, zset_5, zset_6, zset_7, zset_8, zset_9, zset_10, kd_171, rf_171_0, rf_171_1, rf_171_3, rf_171_4, rf_171_5, rf_171_6, rf_171_7, rf_171_8, rf_171_10, rf_171_13, rf_171_14, rf_171_15, rf_171_16, rf_171_17, rf_171_20, rf_171_21, rf_171_27, rf_171_28, rf_171_29, rf_171_30, rf_171_31, c_isIn, if_neg c1, not_true_eq_false, if_true, if_false]
    exact hz
end MZ4
