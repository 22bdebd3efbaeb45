/-! THE REFERENCE: laying down, POWER-UP -/
section MQ2
variable {d : Nat} {im : zM} {Q : Option zV → zM → Prop} {a b v dv kd sl i j k f e bu t o : Int}
def bsX (A : Int → Int) (bu k : Int) : Int := if bu < 0 then 0 else A (23 * bu + (19 + k))
def ldF (D : Int → Int) (bu dv : Int) (a : Int) (A : Int → Int) : Int → Int := ups A (23 * dv + (12 + a)) (bsX A bu (A (23 * dv + (6 + a))) + D (80 * A (23 * dv + (6 + a)) + (3 * dv + a)))
def ldK (D S : Int → Int) (bu dv : Int) (k : Int) (A : Int → Int) : Int → Int := if A (23 * dv + 1) = 1 then ups (ups A (23 * dv + (21 + k)) (S (80 * k + (60 + dv)))) (23 * dv + (19 + k)) (if S (80 * k + (60 + dv)) = 0 then -1 else bsX (ups A (23 * dv + (21 + k)) (S (80 * k + (60 + dv)))) bu k + D (80 * k + (60 + dv))) else A
def ldR (D S : Int → Int) (dv : Int) (A : Int → Int) : Int → Int := lp (ldK D S (A (23 * dv + 2)) dv) 2 0 (lp (ldF D (A (23 * dv + 2)) dv) (A (23 * dv + 5)).toNat 0 A)
/-- the rows' fixed bounds -/
def MF (A : Int → Int) : Prop := ∀ e : Int, 0 ≤ e → e < 20 → (-1 ≤ A (23 * e + 2) ∧ A (23 * e + 2) ≤ 19) ∧ (0 ≤ A (23 * e + 5) ∧ A (23 * e + 5) ≤ 3) ∧ ∀ a : Int, 0 ≤ a → a < 3 → 0 ≤ A (23 * e + (6 + a)) ∧ A (23 * e + (6 + a)) ≤ 1
def DK (D : Int → Int) : Prop := ∀ i : Int, 0 ≤ i → i < 160 → 0 ≤ D i ∧ D i ≤ 1000000000
/-- the bus of a device begins within bounds -/
def BgB (A : Int → Int) (bu : Int) : Prop := 0 ≤ bu → ∀ k : Int, 0 ≤ k → k < 2 → -1 ≤ A (23 * bu + (19 + k)) ∧ A (23 * bu + (19 + k)) ≤ 1000000000
theorem l_ldF {D : Int → Int} (hD : DK D) (hd : 0 ≤ dv ∧ dv < 20) (hb : -1 ≤ bu ∧ bu ≤ 19) {m : Int} {K : Int → Int} (hm : 0 ≤ m ∧ m ≤ 3) (hK : ∀ a : Int, 0 ≤ a → a < 3 → 0 ≤ K a ∧ K a ≤ 1) : ∀ (n : Nat) (a : Int) (X : zM) (x4 : zV), 0 ≤ a → a + n = m → X 176 = D → X 172 (23 * dv + 5) = m → (∀ a : Int, 0 ≤ a → a < 3 → X 172 (23 * dv + (6 + a)) = K a) → BgB (X 172) bu → ∃ x4', ∀ Q, wp none (d + 1) 188 (zpg 188 9) [.inr (some 171), .inl dv, .inl bu, .inl a, x4] [] X Q ↔ wp none (d + 1) 188 (zpg 188 79) [.inr (some 171), .inl dv, .inl bu, .inl m, x4'] [] (setc X 172 (lp (ldF D bu dv) n a (X 172))) Q
  | 0, a, X, x4, h0, h1, hX, h5, h6, hB => by
    refine ⟨x4, fun Q => ?_⟩
    conv => lhs; rw [pg_188_9]
    simp (disch := omega) only [cw_142, wp_iload, wp_aload, wp_istore, wp_astore, wp_iinc, wp_iconst, wp_dup, wp_dup2, wp_pop, wp_iadd, wp_isub, wp_imul, wp_idiv, wp_irem, wp_ineg, wp_iand, wp_ior, wp_ixor, wp_ishl, wp_ishr, wp_getI, wp_putI, wp_getR, wp_goto, wp_goto_w, wq_if_eq, wq_if_ne, wq_if_lt, wq_if_ge, wq_if_gt, wq_if_le, wq_icmp_eq, wq_icmp_ne, wq_icmp_lt, wq_icmp_ge, wq_icmp_gt, wq_icmp_le, wp_max, wp_min, kI_inl, kR_some, kN_inl, kO_some, KT_none, KT_some, List.length_cons, List.length_nil, Nat.reduceAdd, Nat.reduceLT, Nat.reduceLeDiff, Nat.reduceMod, Nat.reduceDiv, true_and, and_true, Int.reduceLE, Int.reduceNeg, Int.reduceLT, Int.cast_ofNat_Int, Nat.zero_le, zI, Int.reduceAdd, Int.reduceSub, Int.reduceMul, not_true_eq_false, not_false_eq_true, false_implies, true_implies, i01_0, i01_1, ite_not, ↓reduceIte, zget_0, zget_1, zget_2, zget_3, zget_4, zget_5, zget_6, zget_7, zget_8, zget_9, zget_10, zset_0, zset_1, zset_2, zset_3, zset_4, zset_5, zset_6, zset_7, zset_8, zset_9, zset_10, kd_171, rf_171_0, rf_171_1, rf_171_3, rf_171_4, rf_171_5, rf_171_6, rf_171_7, rf_171_8, rf_171_10, rf_171_13, rf_171_14, rf_171_15, rf_171_16, rf_171_17, rf_171_20, rf_171_21, rf_171_27, rf_171_28, rf_171_29, rf_171_30, rf_171_31, c_of, h5, show m ≤ a by omega, if_true, lp, setc_self]
    rw [show a = m by omega]
  | n + 1, a, X, x4, h0, h1, hX, h5, h6, hB => by
    have hka := hK a h0 (by omega)
    have e6 := h6 a h0 (by omega)
    have hDa := hD (80 * K a + (3 * dv + a)) (by omega) (by omega)
    have ef : ldF D bu dv a (X 172) = ups (X 172) (23 * dv + (12 + a)) (bsX (X 172) bu (K a) + D (80 * K a + (3 * dv + a))) := by
      unfold ldF
      rw [e6]
    obtain ⟨x4', ih⟩ := l_ldF hD hd hb hm hK n (a + 1) (setc X 172 (ldF D bu dv a (X 172))) (.inl (K a)) (by omega) (by omega) (by rw [setc_ne _ _ (by omega)]; exact hX) (by rw [setc_at, ef, ups_ne _ _ (by omega)]; exact h5) (fun a' q0 q1 => by rw [setc_at, ef, ups_ne _ _ (by omega)]; exact h6 a' q0 q1) (fun q k q0 q1 => by rw [setc_at, ef, ups_ne _ _ (by omega)]; exact hB q k q0 q1)
    refine ⟨x4', fun Q => ?_⟩
    have ih' := ih Q
    rw [setc_at, setc_setc] at ih'
    simp only [lp]
    rw [← ih', ef]
    conv => lhs; rw [pg_188_9]
    by_cases c : bu < 0
    · rw [show bsX (X 172) bu (K a) = 0 from if_pos c]
      simp (disch := omega) only [cw_142, cw_143, cw_173, pg_188_54, wp_iload, wp_aload, wp_istore, wp_astore, wp_iinc, wp_iconst, wp_dup, wp_dup2, wp_pop, wp_iadd, wp_isub, wp_imul, wp_idiv, wp_irem, wp_ineg, wp_iand, wp_ior, wp_ixor, wp_ishl, wp_ishr, wp_getI, wp_putI, wp_getR, wp_goto, wp_goto_w, wq_if_eq, wq_if_ne, wq_if_lt, wq_if_ge, wq_if_gt, wq_if_le, wq_icmp_eq, wq_icmp_ne, wq_icmp_lt, wq_icmp_ge, wq_icmp_gt, wq_icmp_le, wp_max, wp_min, kI_inl, kR_some, kN_inl, kO_some, KT_none, KT_some, List.length_cons, List.length_nil, Nat.reduceAdd, Nat.reduceLT, Nat.reduceLeDiff, Nat.reduceMod, Nat.reduceDiv, true_and, and_true, Int.reduceLE, Int.reduceNeg, Int.reduceLT, Int.cast_ofNat_Int, Nat.zero_le, zI, Int.reduceAdd, Int.reduceSub, Int.reduceMul, not_true_eq_false, not_false_eq_true, false_implies, true_implies, i01_0, i01_1, ite_not, ↓reduceIte, zget_0, zget_1, zget_2, zget_3, zget_4, zget_5, zget_6, zget_7, zget_8, zget_9, zget_10, zset_0, zset_1, zset_2, zset_3, zset_4, zset_5, zset_6, zset_7, zset_8, zset_9, zset_10, kd_171, rf_171_0, rf_171_1, rf_171_3, rf_171_4, rf_171_5, rf_171_6, rf_171_7, rf_171_8, rf_171_10, rf_171_13, rf_171_14, rf_171_15, rf_171_16, rf_171_17, rf_171_20, rf_171_21, rf_171_27, rf_171_28, rf_171_29, rf_171_30, rf_171_31, c_of, h5, show ¬ m ≤ a by omega, if_false, e6, show ¬ 0 ≤ bu by omega, c_thingAt, wp_iaload kd_176, hX, c_put]
      try (repeat (refine (and_iff_right (by omega)).trans ?_))
      try exact Iff.rfl
    · have hBk := hB (by omega) (K a) (by omega) (by omega)
      rw [show bsX (X 172) bu (K a) = X 172 (23 * bu + (19 + K a)) from if_neg c]
      simp (disch := omega) only [cw_142, cw_143, cw_173, pg_188_44, wp_iload, wp_aload, wp_istore, wp_astore, wp_iinc, wp_iconst, wp_dup, wp_dup2, wp_pop, wp_iadd, wp_isub, wp_imul, wp_idiv, wp_irem, wp_ineg, wp_iand, wp_ior, wp_ixor, wp_ishl, wp_ishr, wp_getI, wp_putI, wp_getR, wp_goto, wp_goto_w, wq_if_eq, wq_if_ne, wq_if_lt, wq_if_ge, wq_if_gt, wq_if_le, wq_icmp_eq, wq_icmp_ne, wq_icmp_lt, wq_icmp_ge, wq_icmp_gt, wq_icmp_le, wp_max, wp_min, kI_inl, kR_some, kN_inl, kO_some, KT_none, KT_some, List.length_cons, List.length_nil, Nat.reduceAdd, Nat.reduceLT, Nat.reduceLeDiff, Nat.reduceMod, Nat.reduceDiv, true_and, and_true, Int.reduceLE, Int.reduceNeg, Int.reduceLT, Int.cast_ofNat_Int, Nat.zero_le, zI, Int.reduceAdd, Int.reduceSub, Int.reduceMul, not_true_eq_false, not_false_eq_true, false_implies, true_implies, i01_0, i01_1, ite_not, ↓reduceIte, zget_0, zget_1, zget_2, zget_3, zget_4, zget_5, zget_6, zget_7, zget_8, zget_9, zget_10, zset_0, zset_1, zset_2, zset_3, zset_4, zset_5, zset_6, zset_7, zset_8, zset_9, zset_10, kd_171, rf_171_0, rf_171_1, rf_171_3, rf_171_4, rf_171_5, rf_171_6, rf_171_7, rf_171_8, rf_171_10, rf_171_13, rf_171_14, rf_171_15, rf_171_16, rf_171_17, rf_171_20, rf_171_21, rf_171_27, rf_171_28, rf_171_29, rf_171_30, rf_171_31, c_of, h5, show ¬ m ≤ a by omega, if_false, e6, show 0 ≤ bu by omega, if_true, c_thingAt, wp_iaload kd_176, hX, c_put]
      try (repeat (refine (and_iff_right (by omega)).trans ?_))
      try exact Iff.rfl
theorem l_ldK {D S : Int → Int} (hD : DK D) (hd : 0 ≤ dv ∧ dv < 20) (hb : -1 ≤ bu ∧ bu ≤ 19) : ∀ (n : Nat) (k : Int) (X : zM) (x4 : zV), 0 ≤ k → k + n = 2 → X 176 = D → X 177 = S → (0 ≤ bu → ∀ k' : Int, k ≤ k' → k' < 2 → -1 ≤ X 172 (23 * bu + (19 + k')) ∧ X 172 (23 * bu + (19 + k')) ≤ 1000000000) → ∀ Q, wp none (d + 1) 188 (zpg 188 81) [.inr (some 171), .inl dv, .inl bu, .inl k, x4] [] X Q ↔ Q none (setc X 172 (lp (ldK D S bu dv) n k (X 172)))
  | 0, k, X, x4, h0, h1, hX, hS, hB, Q => by
    rw [pg_188_81]
    simp (disch := omega) only [wp_return rk_188, pg_188_176, wp_iload, wp_aload, wp_istore, wp_astore, wp_iinc, wp_iconst, wp_dup, wp_dup2, wp_pop, wp_iadd, wp_isub, wp_imul, wp_idiv, wp_irem, wp_ineg, wp_iand, wp_ior, wp_ixor, wp_ishl, wp_ishr, wp_getI, wp_putI, wp_getR, wp_goto, wp_goto_w, wq_if_eq, wq_if_ne, wq_if_lt, wq_if_ge, wq_if_gt, wq_if_le, wq_icmp_eq, wq_icmp_ne, wq_icmp_lt, wq_icmp_ge, wq_icmp_gt, wq_icmp_le, wp_max, wp_min, kI_inl, kR_some, kN_inl, kO_some, KT_none, KT_some, List.length_cons, List.length_nil, Nat.reduceAdd, Nat.reduceLT, Nat.reduceLeDiff, Nat.reduceMod, Nat.reduceDiv, true_and, and_true, Int.reduceLE, Int.reduceNeg, Int.reduceLT, Int.cast_ofNat_Int, Nat.zero_le, zI, Int.reduceAdd, Int.reduceSub, Int.reduceMul, not_true_eq_false, not_false_eq_true, false_implies, true_implies, i01_0, i01_1, ite_not, ↓reduceIte, zget_0, zget_1, zget_2, zget_3, zget_4, zget_5, zget_6, zget_7, zget_8, zget_9, zget_10, zset_0, zset_1, zset_2, zset_3, zset_4, zset_5, zset_6, zset_7, zset_8, zset_9, zset_10, show 2 ≤ k by omega, if_true, lp, setc_self]
  | n + 1, k, X, x4, h0, h1, hX, hS, hB, Q => by
    have hDk := hD (80 * k + (60 + dv)) (by omega) (by omega)
    simp only [lp]
    by_cases c1 : X 172 (23 * dv + 1) = 1
    · have ih := fun x4 => l_ldK (S := S) hD hd hb n (k + 1) (setc X 172 (ldK D S bu dv k (X 172))) x4 (by omega) (by omega) (by rw [setc_ne _ _ (by omega)]; exact hX) (by rw [setc_ne _ _ (by omega)]; exact hS) (fun q k' q0 q1 => by
        rw [setc_at]
        unfold ldK
        rw [if_pos c1, ups_ne _ _ (by omega), ups_ne _ _ (by omega)]
        exact hB q k' (by omega) q1) Q
      simp only [setc_at, setc_setc] at ih
      rw [← ih (.inl (80 * k + (60 + dv)))]
      have hS2 : setc X 172 (ups (X 172) (23 * dv + (21 + k)) (S (80 * k + (60 + dv)))) 177 = S := by rw [setc_ne _ _ (by omega)]; exact hS
      have hX2 : setc X 172 (ups (X 172) (23 * dv + (21 + k)) (S (80 * k + (60 + dv)))) 176 = D := by rw [setc_ne _ _ (by omega)]; exact hX
      conv => lhs; rw [pg_188_81]
      by_cases c2 : S (80 * k + (60 + dv)) = 0
      · have ec : ldK D S bu dv k (X 172) = ups (ups (X 172) (23 * dv + (21 + k)) (S (80 * k + (60 + dv)))) (23 * dv + (19 + k)) (-1) := by
          unfold ldK
          rw [if_pos c1, if_pos c2]
        rw [ec]
        simp (disch := omega) only [cw_142, cw_143, cw_173, pg_188_167, wp_iload, wp_aload, wp_istore, wp_astore, wp_iinc, wp_iconst, wp_dup, wp_dup2, wp_pop, wp_iadd, wp_isub, wp_imul, wp_idiv, wp_irem, wp_ineg, wp_iand, wp_ior, wp_ixor, wp_ishl, wp_ishr, wp_getI, wp_putI, wp_getR, wp_goto, wp_goto_w, wq_if_eq, wq_if_ne, wq_if_lt, wq_if_ge, wq_if_gt, wq_if_le, wq_icmp_eq, wq_icmp_ne, wq_icmp_lt, wq_icmp_ge, wq_icmp_gt, wq_icmp_le, wp_max, wp_min, kI_inl, kR_some, kN_inl, kO_some, KT_none, KT_some, List.length_cons, List.length_nil, Nat.reduceAdd, Nat.reduceLT, Nat.reduceLeDiff, Nat.reduceMod, Nat.reduceDiv, true_and, and_true, Int.reduceLE, Int.reduceNeg, Int.reduceLT, Int.cast_ofNat_Int, Nat.zero_le, zI, Int.reduceAdd, Int.reduceSub, Int.reduceMul, not_true_eq_false, not_false_eq_true, false_implies, true_implies, i01_0, i01_1, ite_not, ↓reduceIte, zget_0, zget_1, zget_2, zget_3, zget_4, zget_5, zget_6, zget_7, zget_8, zget_9, zget_10, zset_0, zset_1, zset_2, zset_3, zset_4, zset_5, zset_6, zset_7, zset_8, zset_9, zset_10, kd_171, rf_171_0, rf_171_1, rf_171_3, rf_171_4, rf_171_5, rf_171_6, rf_171_7, rf_171_8, rf_171_10, rf_171_13, rf_171_14, rf_171_15, rf_171_16, rf_171_17, rf_171_20, rf_171_21, rf_171_27, rf_171_28, rf_171_29, rf_171_30, rf_171_31, c_of, show ¬ 2 ≤ k by omega, if_false, c1, not_true_eq_false, c_thingAt, wp_iaload kd_177, hS, c_put, hS2, setc_at, setc_setc]
        simp only [c2, not_true_eq_false, if_false]
        try (repeat (refine (and_iff_right (by omega)).trans ?_))
        try exact Iff.rfl
      · by_cases c : bu < 0
        · have ec : ldK D S bu dv k (X 172) = ups (ups (X 172) (23 * dv + (21 + k)) (S (80 * k + (60 + dv)))) (23 * dv + (19 + k)) (0 + D (80 * k + (60 + dv))) := by
            unfold ldK bsX
            rw [if_pos c1, if_neg c2, if_pos c]
          rw [ec]
          simp (disch := omega) only [cw_142, cw_143, cw_173, pg_188_142, pg_188_159, wp_iload, wp_aload, wp_istore, wp_astore, wp_iinc, wp_iconst, wp_dup, wp_dup2, wp_pop, wp_iadd, wp_isub, wp_imul, wp_idiv, wp_irem, wp_ineg, wp_iand, wp_ior, wp_ixor, wp_ishl, wp_ishr, wp_getI, wp_putI, wp_getR, wp_goto, wp_goto_w, wq_if_eq, wq_if_ne, wq_if_lt, wq_if_ge, wq_if_gt, wq_if_le, wq_icmp_eq, wq_icmp_ne, wq_icmp_lt, wq_icmp_ge, wq_icmp_gt, wq_icmp_le, wp_max, wp_min, kI_inl, kR_some, kN_inl, kO_some, KT_none, KT_some, List.length_cons, List.length_nil, Nat.reduceAdd, Nat.reduceLT, Nat.reduceLeDiff, Nat.reduceMod, Nat.reduceDiv, true_and, and_true, Int.reduceLE, Int.reduceNeg, Int.reduceLT, Int.cast_ofNat_Int, Nat.zero_le, zI, Int.reduceAdd, Int.reduceSub, Int.reduceMul, not_true_eq_false, not_false_eq_true, false_implies, true_implies, i01_0, i01_1, ite_not, ↓reduceIte, zget_0, zget_1, zget_2, zget_3, zget_4, zget_5, zget_6, zget_7, zget_8, zget_9, zget_10, zset_0, zset_1, zset_2, zset_3, zset_4, zset_5, zset_6, zset_7, zset_8, zset_9, zset_10, kd_171, rf_171_0, rf_171_1, rf_171_3, rf_171_4, rf_171_5, rf_171_6, rf_171_7, rf_171_8, rf_171_10, rf_171_13, rf_171_14, rf_171_15, rf_171_16, rf_171_17, rf_171_20, rf_171_21, rf_171_27, rf_171_28, rf_171_29, rf_171_30, rf_171_31, c_of, show ¬ 2 ≤ k by omega, if_false, c1, not_true_eq_false, c_thingAt, wp_iaload kd_177, wp_iaload kd_176, hS, c_put, hS2, hX2, setc_at, setc_setc, c2, not_false_eq_true, if_true, show ¬ 0 ≤ bu by omega]
          try (repeat (refine (and_iff_right (by omega)).trans ?_))
          try exact Iff.rfl
        · have hBk := hB (by omega) k (Int.le_refl _) (by omega)
          have e19 : ups (X 172) (23 * dv + (21 + k)) (S (80 * k + (60 + dv))) (23 * bu + (19 + k)) = X 172 (23 * bu + (19 + k)) := ups_ne _ _ (by omega)
          have ec : ldK D S bu dv k (X 172) = ups (ups (X 172) (23 * dv + (21 + k)) (S (80 * k + (60 + dv)))) (23 * dv + (19 + k)) (X 172 (23 * bu + (19 + k)) + D (80 * k + (60 + dv))) := by
            unfold ldK bsX
            rw [if_pos c1, if_neg c2, if_neg c, e19]
          rw [ec]
          simp (disch := omega) only [cw_142, cw_143, cw_173, pg_188_142, pg_188_150, wp_iload, wp_aload, wp_istore, wp_astore, wp_iinc, wp_iconst, wp_dup, wp_dup2, wp_pop, wp_iadd, wp_isub, wp_imul, wp_idiv, wp_irem, wp_ineg, wp_iand, wp_ior, wp_ixor, wp_ishl, wp_ishr, wp_getI, wp_putI, wp_getR, wp_goto, wp_goto_w, wq_if_eq, wq_if_ne, wq_if_lt, wq_if_ge, wq_if_gt, wq_if_le, wq_icmp_eq, wq_icmp_ne, wq_icmp_lt, wq_icmp_ge, wq_icmp_gt, wq_icmp_le, wp_max, wp_min, kI_inl, kR_some, kN_inl, kO_some, KT_none, KT_some, List.length_cons, List.length_nil, Nat.reduceAdd, Nat.reduceLT, Nat.reduceLeDiff, Nat.reduceMod, Nat.reduceDiv, true_and, and_true, Int.reduceLE, Int.reduceNeg, Int.reduceLT, Int.cast_ofNat_Int, Nat.zero_le, zI, Int.reduceAdd, Int.reduceSub, Int.reduceMul, not_true_eq_false, not_false_eq_true, false_implies, true_implies, i01_0, i01_1, ite_not, ↓reduceIte, zget_0, zget_1, zget_2, zget_3, zget_4, zget_5, zget_6, zget_7, zget_8, zget_9, zget_10, zset_0, zset_1, zset_2, zset_3, zset_4, zset_5, zset_6, zset_7, zset_8, zset_9, zset_10, kd_171, rf_171_0, rf_171_1, rf_171_3, rf_171_4, rf_171_5, rf_171_6, rf_171_7, rf_171_8, rf_171_10, rf_171_13, rf_171_14, rf_171_15, rf_171_16, rf_171_17, rf_171_20, rf_171_21, rf_171_27, rf_171_28, rf_171_29, rf_171_30, rf_171_31, c_of, show ¬ 2 ≤ k by omega, if_false, c1, not_true_eq_false, c_thingAt, wp_iaload kd_177, wp_iaload kd_176, hS, c_put, hS2, hX2, setc_at, setc_setc, c2, not_false_eq_true, if_true, show 0 ≤ bu by omega, e19]
          try (repeat (refine (and_iff_right (by omega)).trans ?_))
          try exact Iff.rfl
    · have ec : ∀ k', ldK D S bu dv k' (X 172) = X 172 := fun k' => if_neg c1
      have el : ∀ (n : Nat) (k : Int), lp (ldK D S bu dv) n k (X 172) = X 172 := by
        intro n
        induction n with
        | zero => intro k; rfl
        | succ n ih => intro k; simp only [lp]; rw [ec, ih]
      rw [ec, el, setc_self, pg_188_81]
      simp (disch := omega) only [cw_142, wp_return rk_188, pg_188_176, wp_iload, wp_aload, wp_istore, wp_astore, wp_iinc, wp_iconst, wp_dup, wp_dup2, wp_pop, wp_iadd, wp_isub, wp_imul, wp_idiv, wp_irem, wp_ineg, wp_iand, wp_ior, wp_ixor, wp_ishl, wp_ishr, wp_getI, wp_putI, wp_getR, wp_goto, wp_goto_w, wq_if_eq, wq_if_ne, wq_if_lt, wq_if_ge, wq_if_gt, wq_if_le, wq_icmp_eq, wq_icmp_ne, wq_icmp_lt, wq_icmp_ge, wq_icmp_gt, wq_icmp_le, wp_max, wp_min, kI_inl, kR_some, kN_inl, kO_some, KT_none, KT_some, List.length_cons, List.length_nil, Nat.reduceAdd, Nat.reduceLT, Nat.reduceLeDiff, Nat.reduceMod, Nat.reduceDiv, true_and, and_true, Int.reduceLE, Int.reduceNeg, Int.reduceLT, Int.cast_ofNat_Int, Nat.zero_le, zI, Int.reduceAdd, Int.reduceSub, Int.reduceMul, not_true_eq_false, not_false_eq_true, false_implies, true_implies, i01_0, i01_1, ite_not, ↓reduceIte, zget_0, zget_1, zget_2, zget_3, zget_4, zget_5, zget_6, zget_7, zget_8, zget_9, zget_10, zset_0, zset_1, zset_2, zset_3, zset_4, zset_5, zset_6, zset_7, zset_8, zset_9, zset_10, kd_171, rf_171_0, rf_171_1, rf_171_3, rf_171_4, rf_171_5, rf_171_6, rf_171_7, rf_171_8, rf_171_10, rf_171_13, rf_171_14, rf_171_15, rf_171_16, rf_171_17, rf_171_20, rf_171_21, rf_171_27, rf_171_28, rf_171_29, rf_171_30, rf_171_31, c_of, show ¬ 2 ≤ k by omega, if_false, c1, not_false_eq_true, if_true]
theorem c_layDownM {X : zM} {D S : Int → Int} (hD : DK D) (hXD : X 176 = D) (hXS : X 177 = S) (hd : 0 ≤ dv ∧ dv < 20) (hF : MF (X 172)) (hB : BgB (X 172) (X 172 (23 * dv + 2))) : CallP (d + 1) 188 [.inr (some 171), .inl dv] X Q ↔ Q none (setc X 172 (ldR D S dv (X 172))) := by
  have hf := hF dv hd.1 hd.2
  obtain ⟨x4', h1⟩ := l_ldF (d := d) hD hd hf.1 (m := X 172 (23 * dv + 5)) (K := fun a => X 172 (23 * dv + (6 + a))) hf.2.1 hf.2.2 (X 172 (23 * dv + 5)).toNat 0 X (.inr none) (by omega) (by omega) hXD rfl (fun _ _ _ => rfl) hB
  have hAf : ∀ j : Int, (∀ a : Int, 0 ≤ a → a < 3 → j ≠ 23 * dv + (12 + a)) → lp (ldF D (X 172 (23 * dv + 2)) dv) (X 172 (23 * dv + 5)).toNat 0 (X 172) j = X 172 j := by
    intro j hj
    exact lp_ind (ldF D (X 172 (23 * dv + 2)) dv) (fun A => A j = X 172 j) _ 0 (X 172) rfl (fun a A q0 q1 hA => by
      unfold ldF
      rw [ups_ne _ _ (hj a q0 (by omega))]
      exact hA)
  have h2 := l_ldK (d := d) (S := S) hD hd hf.1 2 0 (setc X 172 (lp (ldF D (X 172 (23 * dv + 2)) dv) (X 172 (23 * dv + 5)).toNat 0 (X 172))) x4' (by omega) (by omega) (by rw [setc_ne _ _ (by omega)]; exact hXD) (by rw [setc_ne _ _ (by omega)]; exact hXS) (fun q k q0 q1 => by
    rw [setc_at, hAf _ (fun a _ _ => by omega)]
    exact hB q k q0 q1) Q
  rw [setc_at, setc_setc] at h2
  have h1' := h1 Q
  simp (disch := omega) only [en_188, pg_188_0, cw_142, wp_iload, wp_aload, wp_istore, wp_astore, wp_iinc, wp_iconst, wp_dup, wp_dup2, wp_pop, wp_iadd, wp_isub, wp_imul, wp_idiv, wp_irem, wp_ineg, wp_iand, wp_ior, wp_ixor, wp_ishl, wp_ishr, wp_getI, wp_putI, wp_getR, wp_goto, wp_goto_w, wq_if_eq, wq_if_ne, wq_if_lt, wq_if_ge, wq_if_gt, wq_if_le, wq_icmp_eq, wq_icmp_ne, wq_icmp_lt, wq_icmp_ge, wq_icmp_gt, wq_icmp_le, wp_max, wp_min, kI_inl, kR_some, kN_inl, kO_some, KT_none, KT_some, List.length_cons, List.length_nil, Nat.reduceAdd, Nat.reduceLT, Nat.reduceLeDiff, Nat.reduceMod, Nat.reduceDiv, true_and, and_true, Int.reduceLE, Int.reduceNeg, Int.reduceLT, Int.cast_ofNat_Int, Nat.zero_le, zI, Int.reduceAdd, Int.reduceSub, Int.reduceMul, not_true_eq_false, not_false_eq_true, false_implies, true_implies, i01_0, i01_1, ite_not, ↓reduceIte, zget_0, zget_1, zget_2, zget_3, zget_4, zget_5, zget_6, zget_7, zget_8, zget_9, zget_10, zset_0, zset_1, zset_2, zset_3, zset_4, zset_5, zset_6, zset_7, zset_8, zset_9, zset_10, kd_171, rf_171_0, rf_171_1, rf_171_3, rf_171_4, rf_171_5, rf_171_6, rf_171_7, rf_171_8, rf_171_10, rf_171_13, rf_171_14, rf_171_15, rf_171_16, rf_171_17, rf_171_20, rf_171_21, rf_171_27, rf_171_28, rf_171_29, rf_171_30, rf_171_31, c_of]
  rw [h1', pg_188_79]
  simp (disch := omega) only [wp_iload, wp_aload, wp_istore, wp_astore, wp_iinc, wp_iconst, wp_dup, wp_dup2, wp_pop, wp_iadd, wp_isub, wp_imul, wp_idiv, wp_irem, wp_ineg, wp_iand, wp_ior, wp_ixor, wp_ishl, wp_ishr, wp_getI, wp_putI, wp_getR, wp_goto, wp_goto_w, wq_if_eq, wq_if_ne, wq_if_lt, wq_if_ge, wq_if_gt, wq_if_le, wq_icmp_eq, wq_icmp_ne, wq_icmp_lt, wq_icmp_ge, wq_icmp_gt, wq_icmp_le, wp_max, wp_min, kI_inl, kR_some, kN_inl, kO_some, KT_none, KT_some, List.length_cons, List.length_nil, Nat.reduceAdd, Nat.reduceLT, Nat.reduceLeDiff, Nat.reduceMod, Nat.reduceDiv, true_and, and_true, Int.reduceLE, Int.reduceNeg, Int.reduceLT, Int.cast_ofNat_Int, Nat.zero_le, zI, Int.reduceAdd, Int.reduceSub, Int.reduceMul, not_true_eq_false, not_false_eq_true, false_implies, true_implies, i01_0, i01_1, ite_not, ↓reduceIte, zget_0, zget_1, zget_2, zget_3, zget_4, zget_5, zget_6, zget_7, zget_8, zget_9, zget_10, zset_0, zset_1, zset_2, zset_3, zset_4, zset_5, zset_6, zset_7, zset_8, zset_9, zset_10]
  exact h2
def puF (e : Int) (A : Int → Int) : Int → Int := if thM A e then ofM A e else A
theorem l_pu : ∀ (n : Nat) (e : Int) (X : zM), 0 ≤ e → e + n = 20 → ∀ Q, wp none (d + 5) 187 (zpg 187 2) [.inr (some 171), .inl e, .inr none, .inr none] [] X Q ↔ wp none (d + 5) 187 (zpg 187 27) [.inr (some 171), .inl 20, .inr none, .inr none] [] (setc X 172 (lp puF n e (X 172))) Q
  | 0, e, X, h0, h1, Q => by
    conv => lhs; rw [pg_187_2]
    simp (disch := omega) only [wp_iload, wp_aload, wp_istore, wp_astore, wp_iinc, wp_iconst, wp_dup, wp_dup2, wp_pop, wp_iadd, wp_isub, wp_imul, wp_idiv, wp_irem, wp_ineg, wp_iand, wp_ior, wp_ixor, wp_ishl, wp_ishr, wp_getI, wp_putI, wp_getR, wp_goto, wp_goto_w, wq_if_eq, wq_if_ne, wq_if_lt, wq_if_ge, wq_if_gt, wq_if_le, wq_icmp_eq, wq_icmp_ne, wq_icmp_lt, wq_icmp_ge, wq_icmp_gt, wq_icmp_le, wp_max, wp_min, kI_inl, kR_some, kN_inl, kO_some, KT_none, KT_some, List.length_cons, List.length_nil, Nat.reduceAdd, Nat.reduceLT, Nat.reduceLeDiff, Nat.reduceMod, Nat.reduceDiv, true_and, and_true, Int.reduceLE, Int.reduceNeg, Int.reduceLT, Int.cast_ofNat_Int, Nat.zero_le, zI, Int.reduceAdd, Int.reduceSub, Int.reduceMul, not_true_eq_false, not_false_eq_true, false_implies, true_implies, i01_0, i01_1, ite_not, ↓reduceIte, zget_0, zget_1, zget_2, zget_3, zget_4, zget_5, zget_6, zget_7, zget_8, zget_9, zget_10, zset_0, zset_1, zset_2, zset_3, zset_4, zset_5, zset_6, zset_7, zset_8, zset_9, zset_10, show 20 ≤ e by omega, if_true, lp, setc_self]
    rw [show e = 20 by omega]
  | n + 1, e, X, h0, h1, Q => by
    have ih := l_pu n (e + 1) (setc X 172 (puF e (X 172))) (by omega) (by omega) Q
    rw [setc_at, setc_setc] at ih
    simp only [lp]
    rw [← ih]
    conv => lhs; rw [pg_187_2]
    by_cases c : thM (X 172) e
    · have ec : puF e (X 172) = ofM (X 172) e := if_pos c
      rw [ec]
      simp (disch := omega) only [cw_144, cw_163, wp_iload, wp_aload, wp_istore, wp_astore, wp_iinc, wp_iconst, wp_dup, wp_dup2, wp_pop, wp_iadd, wp_isub, wp_imul, wp_idiv, wp_irem, wp_ineg, wp_iand, wp_ior, wp_ixor, wp_ishl, wp_ishr, wp_getI, wp_putI, wp_getR, wp_goto, wp_goto_w, wq_if_eq, wq_if_ne, wq_if_lt, wq_if_ge, wq_if_gt, wq_if_le, wq_icmp_eq, wq_icmp_ne, wq_icmp_lt, wq_icmp_ge, wq_icmp_gt, wq_icmp_le, wp_max, wp_min, kI_inl, kR_some, kN_inl, kO_some, KT_none, KT_some, List.length_cons, List.length_nil, Nat.reduceAdd, Nat.reduceLT, Nat.reduceLeDiff, Nat.reduceMod, Nat.reduceDiv, true_and, and_true, Int.reduceLE, Int.reduceNeg, Int.reduceLT, Int.cast_ofNat_Int, Nat.zero_le, zI, Int.reduceAdd, Int.reduceSub, Int.reduceMul, not_true_eq_false, not_false_eq_true, false_implies, true_implies, i01_0, i01_1, ite_not, ↓reduceIte, zget_0, zget_1, zget_2, zget_3, zget_4, zget_5, zget_6, zget_7, zget_8, zget_9, zget_10, zset_0, zset_1, zset_2, zset_3, zset_4, zset_5, zset_6, zset_7, zset_8, zset_9, zset_10, kd_171, rf_171_0, rf_171_1, rf_171_3, rf_171_4, rf_171_5, rf_171_6, rf_171_7, rf_171_8, rf_171_10, rf_171_13, rf_171_14, rf_171_15, rf_171_16, rf_171_17, rf_171_20, rf_171_21, rf_171_27, rf_171_28, rf_171_29, rf_171_30, rf_171_31, c_thM, if_pos c, c_off, show ¬ 20 ≤ e by omega, if_false]
      try simp only [show ¬ (1 : Int) = 0 by omega, if_false]
      try (repeat (refine (and_iff_right (by omega)).trans ?_))
      try exact Iff.rfl
    · have ec : puF e (X 172) = X 172 := if_neg c
      rw [ec, setc_self]
      simp (disch := omega) only [cw_144, pg_187_21, wp_iload, wp_aload, wp_istore, wp_astore, wp_iinc, wp_iconst, wp_dup, wp_dup2, wp_pop, wp_iadd, wp_isub, wp_imul, wp_idiv, wp_irem, wp_ineg, wp_iand, wp_ior, wp_ixor, wp_ishl, wp_ishr, wp_getI, wp_putI, wp_getR, wp_goto, wp_goto_w, wq_if_eq, wq_if_ne, wq_if_lt, wq_if_ge, wq_if_gt, wq_if_le, wq_icmp_eq, wq_icmp_ne, wq_icmp_lt, wq_icmp_ge, wq_icmp_gt, wq_icmp_le, wp_max, wp_min, kI_inl, kR_some, kN_inl, kO_some, KT_none, KT_some, List.length_cons, List.length_nil, Nat.reduceAdd, Nat.reduceLT, Nat.reduceLeDiff, Nat.reduceMod, Nat.reduceDiv, true_and, and_true, Int.reduceLE, Int.reduceNeg, Int.reduceLT, Int.cast_ofNat_Int, Nat.zero_le, zI, Int.reduceAdd, Int.reduceSub, Int.reduceMul, not_true_eq_false, not_false_eq_true, false_implies, true_implies, i01_0, i01_1, ite_not, ↓reduceIte, zget_0, zget_1, zget_2, zget_3, zget_4, zget_5, zget_6, zget_7, zget_8, zget_9, zget_10, zset_0, zset_1, zset_2, zset_3, zset_4, zset_5, zset_6, zset_7, zset_8, zset_9, zset_10, kd_171, rf_171_0, rf_171_1, rf_171_3, rf_171_4, rf_171_5, rf_171_6, rf_171_7, rf_171_8, rf_171_10, rf_171_13, rf_171_14, rf_171_15, rf_171_16, rf_171_17, rf_171_20, rf_171_21, rf_171_27, rf_171_28, rf_171_29, rf_171_30, rf_171_31, c_thM, if_neg c, show ¬ 20 ≤ e by omega, if_false, if_true]
      try (repeat (refine (and_iff_right (by omega)).trans ?_))
      try exact Iff.rfl
def onF (on : Int → Bool) (e : Int) (A : Int → Int) : Int → Int := if on e = true then ups A (23 * e + 4) 1 else if thM A e then ofM A e else A
theorem l_on {on : Int → Bool} {x3 : zV} : ∀ (n : Nat) (e : Int) (X : zM), 0 ≤ e → e + n = 20 → ∀ Q, wp none (d + 5) 187 (zpg 187 117) [.inr (some 171), .inl (bs on), .inl e, x3] [] X Q ↔ wp none (d + 5) 187 (zpg 187 160) [.inr (some 171), .inl (bs on), .inl 20, x3] [] (setc X 172 (lp (onF on) n e (X 172))) Q
  | 0, e, X, h0, h1, Q => by
    conv => lhs; rw [pg_187_117]
    simp (disch := omega) only [wp_iload, wp_aload, wp_istore, wp_astore, wp_iinc, wp_iconst, wp_dup, wp_dup2, wp_pop, wp_iadd, wp_isub, wp_imul, wp_idiv, wp_irem, wp_ineg, wp_iand, wp_ior, wp_ixor, wp_ishl, wp_ishr, wp_getI, wp_putI, wp_getR, wp_goto, wp_goto_w, wq_if_eq, wq_if_ne, wq_if_lt, wq_if_ge, wq_if_gt, wq_if_le, wq_icmp_eq, wq_icmp_ne, wq_icmp_lt, wq_icmp_ge, wq_icmp_gt, wq_icmp_le, wp_max, wp_min, kI_inl, kR_some, kN_inl, kO_some, KT_none, KT_some, List.length_cons, List.length_nil, Nat.reduceAdd, Nat.reduceLT, Nat.reduceLeDiff, Nat.reduceMod, Nat.reduceDiv, true_and, and_true, Int.reduceLE, Int.reduceNeg, Int.reduceLT, Int.cast_ofNat_Int, Nat.zero_le, zI, Int.reduceAdd, Int.reduceSub, Int.reduceMul, not_true_eq_false, not_false_eq_true, false_implies, true_implies, i01_0, i01_1, ite_not, ↓reduceIte, zget_0, zget_1, zget_2, zget_3, zget_4, zget_5, zget_6, zget_7, zget_8, zget_9, zget_10, zset_0, zset_1, zset_2, zset_3, zset_4, zset_5, zset_6, zset_7, zset_8, zset_9, zset_10, show 20 ≤ e by omega, if_true, lp, setc_self]
    rw [show e = 20 by omega]
  | n + 1, e, X, h0, h1, Q => by
    have ih := l_on (on := on) (x3 := x3) n (e + 1) (setc X 172 (onF on e (X 172))) (by omega) (by omega) Q
    rw [setc_at, setc_setc] at ih
    simp only [lp]
    rw [← ih]
    conv => lhs; rw [pg_187_117]
    by_cases c1 : on e = true
    · have ec : onF on e (X 172) = ups (X 172) (23 * e + 4) 1 := if_pos c1
      rw [ec]
      simp (disch := omega) only [cw_149, cw_143, pg_187_154, wp_iload, wp_aload, wp_istore, wp_astore, wp_iinc, wp_iconst, wp_dup, wp_dup2, wp_pop, wp_iadd, wp_isub, wp_imul, wp_idiv, wp_irem, wp_ineg, wp_iand, wp_ior, wp_ixor, wp_ishl, wp_ishr, wp_getI, wp_putI, wp_getR, wp_goto, wp_goto_w, wq_if_eq, wq_if_ne, wq_if_lt, wq_if_ge, wq_if_gt, wq_if_le, wq_icmp_eq, wq_icmp_ne, wq_icmp_lt, wq_icmp_ge, wq_icmp_gt, wq_icmp_le, wp_max, wp_min, kI_inl, kR_some, kN_inl, kO_some, KT_none, KT_some, List.length_cons, List.length_nil, Nat.reduceAdd, Nat.reduceLT, Nat.reduceLeDiff, Nat.reduceMod, Nat.reduceDiv, true_and, and_true, Int.reduceLE, Int.reduceNeg, Int.reduceLT, Int.cast_ofNat_Int, Nat.zero_le, zI, Int.reduceAdd, Int.reduceSub, Int.reduceMul, not_true_eq_false, not_false_eq_true, false_implies, true_implies, i01_0, i01_1, ite_not, ↓reduceIte, zget_0, zget_1, zget_2, zget_3, zget_4, zget_5, zget_6, zget_7, zget_8, zget_9, zget_10, zset_0, zset_1, zset_2, zset_3, zset_4, zset_5, zset_6, zset_7, zset_8, zset_9, zset_10, kd_171, rf_171_0, rf_171_1, rf_171_3, rf_171_4, rf_171_5, rf_171_6, rf_171_7, rf_171_8, rf_171_10, rf_171_13, rf_171_14, rf_171_15, rf_171_16, rf_171_17, rf_171_20, rf_171_21, rf_171_27, rf_171_28, rf_171_29, rf_171_30, rf_171_31, c_bit, if_pos c1, c_put, show ¬ 20 ≤ e by omega, if_false]
      try simp only [show ¬ (1 : Int) = 0 by omega, if_false]
      try (repeat (refine (and_iff_right (by omega)).trans ?_))
      try exact Iff.rfl
    · by_cases c : thM (X 172) e
      · have ec : onF on e (X 172) = ofM (X 172) e := by unfold onF; rw [if_neg c1, if_pos c]
        rw [ec]
        simp (disch := omega) only [cw_149, cw_144, cw_163, pg_187_141, wp_iload, wp_aload, wp_istore, wp_astore, wp_iinc, wp_iconst, wp_dup, wp_dup2, wp_pop, wp_iadd, wp_isub, wp_imul, wp_idiv, wp_irem, wp_ineg, wp_iand, wp_ior, wp_ixor, wp_ishl, wp_ishr, wp_getI, wp_putI, wp_getR, wp_goto, wp_goto_w, wq_if_eq, wq_if_ne, wq_if_lt, wq_if_ge, wq_if_gt, wq_if_le, wq_icmp_eq, wq_icmp_ne, wq_icmp_lt, wq_icmp_ge, wq_icmp_gt, wq_icmp_le, wp_max, wp_min, kI_inl, kR_some, kN_inl, kO_some, KT_none, KT_some, List.length_cons, List.length_nil, Nat.reduceAdd, Nat.reduceLT, Nat.reduceLeDiff, Nat.reduceMod, Nat.reduceDiv, true_and, and_true, Int.reduceLE, Int.reduceNeg, Int.reduceLT, Int.cast_ofNat_Int, Nat.zero_le, zI, Int.reduceAdd, Int.reduceSub, Int.reduceMul, not_true_eq_false, not_false_eq_true, false_implies, true_implies, i01_0, i01_1, ite_not, ↓reduceIte, zget_0, zget_1, zget_2, zget_3, zget_4, zget_5, zget_6, zget_7, zget_8, zget_9, zget_10, zset_0, zset_1, zset_2, zset_3, zset_4, zset_5, zset_6, zset_7, zset_8, zset_9, zset_10, kd_171, rf_171_0, rf_171_1, rf_171_3, rf_171_4, rf_171_5, rf_171_6, rf_171_7, rf_171_8, rf_171_10, rf_171_13, rf_171_14, rf_171_15, rf_171_16, rf_171_17, rf_171_20, rf_171_21, rf_171_27, rf_171_28, rf_171_29, rf_171_30, rf_171_31, c_bit, if_neg c1, c_thM, if_pos c, c_off, show ¬ 20 ≤ e by omega, if_false, if_true]
        try simp only [show ¬ (1 : Int) = 0 by omega, if_false]
        try (repeat (refine (and_iff_right (by omega)).trans ?_))
        try exact Iff.rfl
      · have ec : onF on e (X 172) = X 172 := by unfold onF; rw [if_neg c1, if_neg c]
        rw [ec, setc_self]
        simp (disch := omega) only [cw_149, cw_144, pg_187_141, pg_187_154, wp_iload, wp_aload, wp_istore, wp_astore, wp_iinc, wp_iconst, wp_dup, wp_dup2, wp_pop, wp_iadd, wp_isub, wp_imul, wp_idiv, wp_irem, wp_ineg, wp_iand, wp_ior, wp_ixor, wp_ishl, wp_ishr, wp_getI, wp_putI, wp_getR, wp_goto, wp_goto_w, wq_if_eq, wq_if_ne, wq_if_lt, wq_if_ge, wq_if_gt, wq_if_le, wq_icmp_eq, wq_icmp_ne, wq_icmp_lt, wq_icmp_ge, wq_icmp_gt, wq_icmp_le, wp_max, wp_min, kI_inl, kR_some, kN_inl, kO_some, KT_none, KT_some, List.length_cons, List.length_nil, Nat.reduceAdd, Nat.reduceLT, Nat.reduceLeDiff, Nat.reduceMod, Nat.reduceDiv, true_and, and_true, Int.reduceLE, Int.reduceNeg, Int.reduceLT, Int.cast_ofNat_Int, Nat.zero_le, zI, Int.reduceAdd, Int.reduceSub, Int.reduceMul, not_true_eq_false, not_false_eq_true, false_implies, true_implies, i01_0, i01_1, ite_not, ↓reduceIte, zget_0, zget_1, zget_2, zget_3, zget_4, zget_5, zget_6, zget_7, zget_8, zget_9, zget_10, zset_0, zset_1, zset_2, zset_3, zset_4, zset_5, zset_6, zset_7, zset_8, zset_9, zset_10, kd_171, rf_171_0, rf_171_1, rf_171_3, rf_171_4, rf_171_5, rf_171_6, rf_171_7, rf_171_8, rf_171_10, rf_171_13, rf_171_14, rf_171_15, rf_171_16, rf_171_17, rf_171_20, rf_171_21, rf_171_27, rf_171_28, rf_171_29, rf_171_30, rf_171_31, c_bit, if_neg c1, c_thM, if_neg c, show ¬ 20 ≤ e by omega, if_false, if_true]
        try (repeat (refine (and_iff_right (by omega)).trans ?_))
        try exact Iff.rfl
def ldD (D S : Int → Int) (lv e : Int) (A : Int → Int) : Int → Int := if onM A e ∧ leM A e = lv then ldR D S e A else A
/-- laying down goes well -/
def LwP (D S : Int → Int) (lv : Int) : Nat → Int → (Int → Int) → Prop
  | 0, _, _ => True
  | n + 1, e, A => MU A ∧ MF A ∧ BgB A (A (23 * e + 2)) ∧ LwP D S lv n (e + 1) (ldD D S lv e A)
theorem l_ldD {D S : Int → Int} (hD : DK D) {on : Int → Bool} {lv : Int} : ∀ (n : Nat) (e : Int) (X : zM), 0 ≤ e → e + n = 20 → X 176 = D → X 177 = S → LwP D S lv n e (X 172) → ∀ Q, wp none (d + 5) 187 (zpg 187 169) [.inr (some 171), .inl (bs on), .inl lv, .inl e] [] X Q ↔ wp none (d + 5) 187 (zpg 187 203) [.inr (some 171), .inl (bs on), .inl lv, .inl 20] [] (setc X 172 (lp (ldD D S lv) n e (X 172))) Q
  | 0, e, X, h0, h1, hX, hS, hp, Q => by
    conv => lhs; rw [pg_187_169]
    simp (disch := omega) only [wp_iload, wp_aload, wp_istore, wp_astore, wp_iinc, wp_iconst, wp_dup, wp_dup2, wp_pop, wp_iadd, wp_isub, wp_imul, wp_idiv, wp_irem, wp_ineg, wp_iand, wp_ior, wp_ixor, wp_ishl, wp_ishr, wp_getI, wp_putI, wp_getR, wp_goto, wp_goto_w, wq_if_eq, wq_if_ne, wq_if_lt, wq_if_ge, wq_if_gt, wq_if_le, wq_icmp_eq, wq_icmp_ne, wq_icmp_lt, wq_icmp_ge, wq_icmp_gt, wq_icmp_le, wp_max, wp_min, kI_inl, kR_some, kN_inl, kO_some, KT_none, KT_some, List.length_cons, List.length_nil, Nat.reduceAdd, Nat.reduceLT, Nat.reduceLeDiff, Nat.reduceMod, Nat.reduceDiv, true_and, and_true, Int.reduceLE, Int.reduceNeg, Int.reduceLT, Int.cast_ofNat_Int, Nat.zero_le, zI, Int.reduceAdd, Int.reduceSub, Int.reduceMul, not_true_eq_false, not_false_eq_true, false_implies, true_implies, i01_0, i01_1, ite_not, ↓reduceIte, zget_0, zget_1, zget_2, zget_3, zget_4, zget_5, zget_6, zget_7, zget_8, zget_9, zget_10, zset_0, zset_1, zset_2, zset_3, zset_4, zset_5, zset_6, zset_7, zset_8, zset_9, zset_10, show 20 ≤ e by omega, if_true, lp, setc_self]
    rw [show e = 20 by omega]
  | n + 1, e, X, h0, h1, hX, hS, hp, Q => by
    obtain ⟨p1, p2, p3, p4⟩ := hp
    have ih := l_ldD (S := S) hD (on := on) (lv := lv) n (e + 1) (setc X 172 (ldD D S lv e (X 172))) (by omega) (by omega) (by rw [setc_ne _ _ (by omega)]; exact hX) (by rw [setc_ne _ _ (by omega)]; exact hS) (by rw [setc_at]; exact p4) Q
    rw [setc_at, setc_setc] at ih
    simp only [lp]
    rw [← ih]
    conv => lhs; rw [pg_187_169]
    by_cases c1 : onM (X 172) e
    · have hle := fun Q => c_levelOf (d := d + 3) (im := X) (dv := e) (Q := Q) p1 c1.1
      by_cases c2 : leM (X 172) e = lv
      · have ec : ldD D S lv e (X 172) = ldR D S e (X 172) := if_pos ⟨c1, c2⟩
        have hld := fun Q => c_layDownM (d := d + 3) (dv := e) (X := X) (Q := Q) hD hX hS (by omega) p2 p3
        rw [ec]
        simp (disch := omega) only [cw_147, cw_153, cw_188, wp_iload, wp_aload, wp_istore, wp_astore, wp_iinc, wp_iconst, wp_dup, wp_dup2, wp_pop, wp_iadd, wp_isub, wp_imul, wp_idiv, wp_irem, wp_ineg, wp_iand, wp_ior, wp_ixor, wp_ishl, wp_ishr, wp_getI, wp_putI, wp_getR, wp_goto, wp_goto_w, wq_if_eq, wq_if_ne, wq_if_lt, wq_if_ge, wq_if_gt, wq_if_le, wq_icmp_eq, wq_icmp_ne, wq_icmp_lt, wq_icmp_ge, wq_icmp_gt, wq_icmp_le, wp_max, wp_min, kI_inl, kR_some, kN_inl, kO_some, KT_none, KT_some, List.length_cons, List.length_nil, Nat.reduceAdd, Nat.reduceLT, Nat.reduceLeDiff, Nat.reduceMod, Nat.reduceDiv, true_and, and_true, Int.reduceLE, Int.reduceNeg, Int.reduceLT, Int.cast_ofNat_Int, Nat.zero_le, zI, Int.reduceAdd, Int.reduceSub, Int.reduceMul, not_true_eq_false, not_false_eq_true, false_implies, true_implies, i01_0, i01_1, ite_not, ↓reduceIte, zget_0, zget_1, zget_2, zget_3, zget_4, zget_5, zget_6, zget_7, zget_8, zget_9, zget_10, zset_0, zset_1, zset_2, zset_3, zset_4, zset_5, zset_6, zset_7, zset_8, zset_9, zset_10, kd_171, rf_171_0, rf_171_1, rf_171_3, rf_171_4, rf_171_5, rf_171_6, rf_171_7, rf_171_8, rf_171_10, rf_171_13, rf_171_14, rf_171_15, rf_171_16, rf_171_17, rf_171_20, rf_171_21, rf_171_27, rf_171_28, rf_171_29, rf_171_30, rf_171_31, c_onM, if_pos c1, hle, c2, hld, show ¬ 20 ≤ e by omega, if_false]
        try simp only [show ¬ (1 : Int) = 0 by omega, if_false, not_true_eq_false]
        try (repeat (refine (and_iff_right (by omega)).trans ?_))
        try exact Iff.rfl
      · have ec : ldD D S lv e (X 172) = X 172 := if_neg (fun q => c2 q.2)
        rw [ec, setc_self]
        simp (disch := omega) only [cw_147, cw_153, pg_187_197, wp_iload, wp_aload, wp_istore, wp_astore, wp_iinc, wp_iconst, wp_dup, wp_dup2, wp_pop, wp_iadd, wp_isub, wp_imul, wp_idiv, wp_irem, wp_ineg, wp_iand, wp_ior, wp_ixor, wp_ishl, wp_ishr, wp_getI, wp_putI, wp_getR, wp_goto, wp_goto_w, wq_if_eq, wq_if_ne, wq_if_lt, wq_if_ge, wq_if_gt, wq_if_le, wq_icmp_eq, wq_icmp_ne, wq_icmp_lt, wq_icmp_ge, wq_icmp_gt, wq_icmp_le, wp_max, wp_min, kI_inl, kR_some, kN_inl, kO_some, KT_none, KT_some, List.length_cons, List.length_nil, Nat.reduceAdd, Nat.reduceLT, Nat.reduceLeDiff, Nat.reduceMod, Nat.reduceDiv, true_and, and_true, Int.reduceLE, Int.reduceNeg, Int.reduceLT, Int.cast_ofNat_Int, Nat.zero_le, zI, Int.reduceAdd, Int.reduceSub, Int.reduceMul, not_true_eq_false, not_false_eq_true, false_implies, true_implies, i01_0, i01_1, ite_not, ↓reduceIte, zget_0, zget_1, zget_2, zget_3, zget_4, zget_5, zget_6, zget_7, zget_8, zget_9, zget_10, zset_0, zset_1, zset_2, zset_3, zset_4, zset_5, zset_6, zset_7, zset_8, zset_9, zset_10, kd_171, rf_171_0, rf_171_1, rf_171_3, rf_171_4, rf_171_5, rf_171_6, rf_171_7, rf_171_8, rf_171_10, rf_171_13, rf_171_14, rf_171_15, rf_171_16, rf_171_17, rf_171_20, rf_171_21, rf_171_27, rf_171_28, rf_171_29, rf_171_30, rf_171_31, c_onM, if_pos c1, hle, c2, show ¬ 20 ≤ e by omega, if_false]
        try simp only [show ¬ (1 : Int) = 0 by omega, if_false, not_false_eq_true, if_true]
        try (repeat (refine (and_iff_right (by omega)).trans ?_))
        try exact Iff.rfl
    · have ec : ldD D S lv e (X 172) = X 172 := if_neg (fun q => c1 q.1)
      rw [ec, setc_self]
      simp (disch := omega) only [cw_147, pg_187_197, wp_iload, wp_aload, wp_istore, wp_astore, wp_iinc, wp_iconst, wp_dup, wp_dup2, wp_pop, wp_iadd, wp_isub, wp_imul, wp_idiv, wp_irem, wp_ineg, wp_iand, wp_ior, wp_ixor, wp_ishl, wp_ishr, wp_getI, wp_putI, wp_getR, wp_goto, wp_goto_w, wq_if_eq, wq_if_ne, wq_if_lt, wq_if_ge, wq_if_gt, wq_if_le, wq_icmp_eq, wq_icmp_ne, wq_icmp_lt, wq_icmp_ge, wq_icmp_gt, wq_icmp_le, wp_max, wp_min, kI_inl, kR_some, kN_inl, kO_some, KT_none, KT_some, List.length_cons, List.length_nil, Nat.reduceAdd, Nat.reduceLT, Nat.reduceLeDiff, Nat.reduceMod, Nat.reduceDiv, true_and, and_true, Int.reduceLE, Int.reduceNeg, Int.reduceLT, Int.cast_ofNat_Int, Nat.zero_le, zI, Int.reduceAdd, Int.reduceSub, Int.reduceMul, not_true_eq_false, not_false_eq_true, false_implies, true_implies, i01_0, i01_1, ite_not, ↓reduceIte, zget_0, zget_1, zget_2, zget_3, zget_4, zget_5, zget_6, zget_7, zget_8, zget_9, zget_10, zset_0, zset_1, zset_2, zset_3, zset_4, zset_5, zset_6, zset_7, zset_8, zset_9, zset_10, kd_171, rf_171_0, rf_171_1, rf_171_3, rf_171_4, rf_171_5, rf_171_6, rf_171_7, rf_171_8, rf_171_10, rf_171_13, rf_171_14, rf_171_15, rf_171_16, rf_171_17, rf_171_20, rf_171_21, rf_171_27, rf_171_28, rf_171_29, rf_171_30, rf_171_31, c_onM, if_neg c1, show ¬ 20 ≤ e by omega, if_false, if_true]
      try (repeat (refine (and_iff_right (by omega)).trans ?_))
      try exact Iff.rfl
def ldL (D S : Int → Int) : Nat → Int → (Int → Int) → (Int → Int)
  | 0, _, A => A
  | n + 1, lv, A => ldL D S n (lv + 1) (lp (ldD D S lv) 20 0 A)
def LwL (D S : Int → Int) : Nat → Int → (Int → Int) → Prop
  | 0, _, _ => True
  | n + 1, lv, A => LwP D S lv 20 0 A ∧ LwL D S n (lv + 1) (lp (ldD D S lv) 20 0 A)
theorem l_ldL {D S : Int → Int} (hD : DK D) {on : Int → Bool} : ∀ (n : Nat) (lv : Int) (X : zM) (x3 : zV), 0 ≤ lv → lv + n = 5 → X 176 = D → X 177 = S → LwL D S n lv (X 172) → ∀ Q, wp none (d + 5) 187 (zpg 187 162) [.inr (some 171), .inl (bs on), .inl lv, x3] [] X Q ↔ Q (some (.inl (lp (cntf on) 20 0 0))) (setc X 172 (ldL D S n lv (X 172)))
  | 0, lv, X, x3, h0, h1, hX, hS, hp, Q => by
    rw [pg_187_162]
    simp (disch := omega) only [cw_150, wp_ireturn rk_187, pg_187_209, wp_iload, wp_aload, wp_istore, wp_astore, wp_iinc, wp_iconst, wp_dup, wp_dup2, wp_pop, wp_iadd, wp_isub, wp_imul, wp_idiv, wp_irem, wp_ineg, wp_iand, wp_ior, wp_ixor, wp_ishl, wp_ishr, wp_getI, wp_putI, wp_getR, wp_goto, wp_goto_w, wq_if_eq, wq_if_ne, wq_if_lt, wq_if_ge, wq_if_gt, wq_if_le, wq_icmp_eq, wq_icmp_ne, wq_icmp_lt, wq_icmp_ge, wq_icmp_gt, wq_icmp_le, wp_max, wp_min, kI_inl, kR_some, kN_inl, kO_some, KT_none, KT_some, List.length_cons, List.length_nil, Nat.reduceAdd, Nat.reduceLT, Nat.reduceLeDiff, Nat.reduceMod, Nat.reduceDiv, true_and, and_true, Int.reduceLE, Int.reduceNeg, Int.reduceLT, Int.cast_ofNat_Int, Nat.zero_le, zI, Int.reduceAdd, Int.reduceSub, Int.reduceMul, not_true_eq_false, not_false_eq_true, false_implies, true_implies, i01_0, i01_1, ite_not, ↓reduceIte, zget_0, zget_1, zget_2, zget_3, zget_4, zget_5, zget_6, zget_7, zget_8, zget_9, zget_10, zset_0, zset_1, zset_2, zset_3, zset_4, zset_5, zset_6, zset_7, zset_8, zset_9, zset_10, show 4 < lv by omega, if_true, c_many, ldL, setc_self]
  | n + 1, lv, X, x3, h0, h1, hX, hS, hp, Q => by
    have hl := l_ldD (d := d) hD (on := on) (lv := lv) 20 0 X (by omega) (by omega) hX hS hp.1 Q
    have ih := fun x3 => l_ldL (S := S) hD (on := on) n (lv + 1) (setc X 172 (lp (ldD D S lv) 20 0 (X 172))) x3 (by omega) (by omega) (by rw [setc_ne _ _ (by omega)]; exact hX) (by rw [setc_ne _ _ (by omega)]; exact hS) (by rw [setc_at]; exact hp.2) Q
    simp only [setc_at, setc_setc] at ih
    simp only [ldL]
    rw [← ih (.inl 20), pg_187_162]
    simp (disch := omega) only [wp_iload, wp_aload, wp_istore, wp_astore, wp_iinc, wp_iconst, wp_dup, wp_dup2, wp_pop, wp_iadd, wp_isub, wp_imul, wp_idiv, wp_irem, wp_ineg, wp_iand, wp_ior, wp_ixor, wp_ishl, wp_ishr, wp_getI, wp_putI, wp_getR, wp_goto, wp_goto_w, wq_if_eq, wq_if_ne, wq_if_lt, wq_if_ge, wq_if_gt, wq_if_le, wq_icmp_eq, wq_icmp_ne, wq_icmp_lt, wq_icmp_ge, wq_icmp_gt, wq_icmp_le, wp_max, wp_min, kI_inl, kR_some, kN_inl, kO_some, KT_none, KT_some, List.length_cons, List.length_nil, Nat.reduceAdd, Nat.reduceLT, Nat.reduceLeDiff, Nat.reduceMod, Nat.reduceDiv, true_and, and_true, Int.reduceLE, Int.reduceNeg, Int.reduceLT, Int.cast_ofNat_Int, Nat.zero_le, zI, Int.reduceAdd, Int.reduceSub, Int.reduceMul, not_true_eq_false, not_false_eq_true, false_implies, true_implies, i01_0, i01_1, ite_not, ↓reduceIte, zget_0, zget_1, zget_2, zget_3, zget_4, zget_5, zget_6, zget_7, zget_8, zget_9, zget_10, zset_0, zset_1, zset_2, zset_3, zset_4, zset_5, zset_6, zset_7, zset_8, zset_9, zset_10, show ¬ 4 < lv by omega, if_false]
    rw [hl]
    conv => lhs; rw [pg_187_203]
    simp (disch := omega) only [wp_iload, wp_aload, wp_istore, wp_astore, wp_iinc, wp_iconst, wp_dup, wp_dup2, wp_pop, wp_iadd, wp_isub, wp_imul, wp_idiv, wp_irem, wp_ineg, wp_iand, wp_ior, wp_ixor, wp_ishl, wp_ishr, wp_getI, wp_putI, wp_getR, wp_goto, wp_goto_w, wq_if_eq, wq_if_ne, wq_if_lt, wq_if_ge, wq_if_gt, wq_if_le, wq_icmp_eq, wq_icmp_ne, wq_icmp_lt, wq_icmp_ge, wq_icmp_gt, wq_icmp_le, wp_max, wp_min, kI_inl, kR_some, kN_inl, kO_some, KT_none, KT_some, List.length_cons, List.length_nil, Nat.reduceAdd, Nat.reduceLT, Nat.reduceLeDiff, Nat.reduceMod, Nat.reduceDiv, true_and, and_true, Int.reduceLE, Int.reduceNeg, Int.reduceLT, Int.cast_ofNat_Int, Nat.zero_le, zI, Int.reduceAdd, Int.reduceSub, Int.reduceMul, not_true_eq_false, not_false_eq_true, false_implies, true_implies, i01_0, i01_1, ite_not, ↓reduceIte, zget_0, zget_1, zget_2, zget_3, zget_4, zget_5, zget_6, zget_7, zget_8, zget_9, zget_10, zset_0, zset_1, zset_2, zset_3, zset_4, zset_5, zset_6, zset_7, zset_8, zset_9, zset_10]
    rw [pg_187_162]
    simp (disch := omega) only [wp_iload, wp_aload, wp_istore, wp_astore, wp_iinc, wp_iconst, wp_dup, wp_dup2, wp_pop, wp_iadd, wp_isub, wp_imul, wp_idiv, wp_irem, wp_ineg, wp_iand, wp_ior, wp_ixor, wp_ishl, wp_ishr, wp_getI, wp_putI, wp_getR, wp_goto, wp_goto_w, wq_if_eq, wq_if_ne, wq_if_lt, wq_if_ge, wq_if_gt, wq_if_le, wq_icmp_eq, wq_icmp_ne, wq_icmp_lt, wq_icmp_ge, wq_icmp_gt, wq_icmp_le, wp_max, wp_min, kI_inl, kR_some, kN_inl, kO_some, KT_none, KT_some, List.length_cons, List.length_nil, Nat.reduceAdd, Nat.reduceLT, Nat.reduceLeDiff, Nat.reduceMod, Nat.reduceDiv, true_and, and_true, Int.reduceLE, Int.reduceNeg, Int.reduceLT, Int.cast_ofNat_Int, Nat.zero_le, zI, Int.reduceAdd, Int.reduceSub, Int.reduceMul, not_true_eq_false, not_false_eq_true, false_implies, true_implies, i01_0, i01_1, ite_not, ↓reduceIte, zget_0, zget_1, zget_2, zget_3, zget_4, zget_5, zget_6, zget_7, zget_8, zget_9, zget_10, zset_0, zset_1, zset_2, zset_3, zset_4, zset_5, zset_6, zset_7, zset_8, zset_9, zset_10]
    try (repeat (refine (and_iff_right (by omega)).trans ?_))
    try exact Iff.rfl
end MQ2
