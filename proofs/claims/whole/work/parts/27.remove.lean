/-! THE CLASS'S TREE: removing -/
/-- a loop that counts down: the last is done first -/
def lpd {S : Type} (f : Int → S → S) : Nat → S → S
  | 0, s => s
  | n + 1, s => lpd f n (f n s)
section TY
variable {d t u : Nat} {im : zM} {Q : Option zV → zM → Prop} {a b v dv kd sl ty oth : Int}
/-- a device's row is cleared from cell k on -/
def zrw (c : Int → Int) (e k : Int) : Int → Int := fun j => if 0 ≤ e ∧ e < 20 ∧ e * 24 + k ≤ j ∧ j < e * 24 + 24 then 0 else c j
theorem l_zero (ht : zT t) {x1 x2 : zV} {i : Int} (hi : -1 ≤ i ∧ i < 2147483647) : ∀ (n : Nat) (k : Int) (im : zM), 0 ≤ k → k + n = 24 → ∀ Q, wp none (d + 1) 72 (zpg 72 39) [.inr (some t), x1, x2, .inl i, .inl oth, .inl k] [] im Q ↔ wp none (d + 1) 72 (zpg 72 9) [.inr (some t), x1, x2, .inl (i - 1), .inl oth, .inl 24] [] (setc im (t + 1) (zrw (im (t + 1)) oth k)) Q
  | 0, k, im, h0, h1, Q => by
    have k0 := (zT_k ht).1
    have k1 := (zT_k ht).2.1
    have k2 := (zT_k ht).2.2.1
    have k3 := (zT_k ht).2.2.2.1
    have k4 := (zT_k ht).2.2.2.2
    have r0 := (zT_r0 _ ht).1
    have r1 := (zT_r0 _ ht).2.1
    have r2 := (zT_r0 _ ht).2.2.1
    have r3 := (zT_r0 _ ht).2.2.2
    rw [pg_72_39]
    have e : zrw (im (t + 1)) oth k = im (t + 1) := by
      funext j
      unfold zrw
      grind
    have ek : k = 24 := by omega
    subst ek
    simp only [en_72, wp_ireturn rk_72, pg_72_0, pg_72_36, pg_72_61, pg_72_67, pg_72_115, pg_72_121, cw_50, cw_51, cw_58, cw_67, wp_iload, wp_aload, wp_istore, wp_astore, wp_iinc, wp_iconst, wp_dup, wp_dup2, wp_pop, wp_iadd, wp_isub, wp_imul, wp_idiv, wp_irem, wp_ineg, wp_iand, wp_ior, wp_ixor, wp_ishl, wp_ishr, wp_getI, wp_putI, wp_getR, wp_goto, wp_goto_w, wq_if_eq, wq_if_ne, wq_if_lt, wq_if_ge, wq_if_gt, wq_if_le, wq_icmp_eq, wq_icmp_ne, wq_icmp_lt, wq_icmp_ge, wq_icmp_gt, wq_icmp_le, wp_max, wp_min, kI_inl, kR_some, kN_inl, kO_some, KT_none, KT_some, List.length_cons, List.length_nil, Nat.reduceAdd, Nat.reduceLT, Nat.reduceLeDiff, Nat.reduceMod, Nat.reduceDiv, true_and, and_true, Int.reduceLE, Int.reduceNeg, Int.reduceLT, Int.cast_ofNat_Int, Nat.zero_le, zI, Int.reduceAdd, Int.reduceSub, Int.reduceMul, not_true_eq_false, not_false_eq_true, false_implies, true_implies, i01_0, i01_1, ite_not, ↓reduceIte, zget_0, zget_1, zget_2, zget_3, zget_4, zget_5, zget_6, zget_7, zget_8, zget_9, zget_10, zset_0, zset_1, zset_2, zset_3, zset_4, zset_5, zset_6, zset_7, zset_8, zset_9, zset_10, k0, r0, r1, r2, r3, wp_iaload k1, wp_iaload k2, wp_iaload k3, wp_iaload k4, wp_iastore k1, wp_iastore k2, wp_iastore k3, wp_iastore k4, e, setc_self, Int.add_neg_eq_sub]
    grind
  | n + 1, k, im, h0, h1, Q => by
    have k0 := (zT_k ht).1
    have k1 := (zT_k ht).2.1
    have k2 := (zT_k ht).2.2.1
    have k3 := (zT_k ht).2.2.2.1
    have k4 := (zT_k ht).2.2.2.2
    have r0 := (zT_r0 _ ht).1
    have r1 := (zT_r0 _ ht).2.1
    have r2 := (zT_r0 _ ht).2.2.1
    have r3 := (zT_r0 _ ht).2.2.2
    have ih := l_zero ht (x1 := x1) (x2 := x2) hi n (k + 1)
    rw [pg_72_39]
    have e : zrw (if 0 ≤ oth ∧ oth < 20 ∧ 0 ≤ k ∧ k < 24 then ups (im (t + 1)) (oth * 24 + k) 0 else im (t + 1)) oth (k + 1) = zrw (im (t + 1)) oth k := by
      funext j
      unfold zrw
      split <;> simp only [ups] <;> grind
    by_cases hv : 0 ≤ oth ∧ oth < 20 ∧ 0 ≤ k ∧ k < 24
    · rw [if_pos hv] at e
      simp (disch := omega) only [en_72, wp_ireturn rk_72, pg_72_0, pg_72_36, pg_72_61, pg_72_67, pg_72_115, pg_72_121, cw_50, cw_51, cw_58, cw_67, wp_iload, wp_aload, wp_istore, wp_astore, wp_iinc, wp_iconst, wp_dup, wp_dup2, wp_pop, wp_iadd, wp_isub, wp_imul, wp_idiv, wp_irem, wp_ineg, wp_iand, wp_ior, wp_ixor, wp_ishl, wp_ishr, wp_getI, wp_putI, wp_getR, wp_goto, wp_goto_w, wq_if_eq, wq_if_ne, wq_if_lt, wq_if_ge, wq_if_gt, wq_if_le, wq_icmp_eq, wq_icmp_ne, wq_icmp_lt, wq_icmp_ge, wq_icmp_gt, wq_icmp_le, wp_max, wp_min, kI_inl, kR_some, kN_inl, kO_some, KT_none, KT_some, List.length_cons, List.length_nil, Nat.reduceAdd, Nat.reduceLT, Nat.reduceLeDiff, Nat.reduceMod, Nat.reduceDiv, true_and, and_true, Int.reduceLE, Int.reduceNeg, Int.reduceLT, Int.cast_ofNat_Int, Nat.zero_le, zI, Int.reduceAdd, Int.reduceSub, Int.reduceMul, not_true_eq_false, not_false_eq_true, false_implies, true_implies, i01_0, i01_1, ite_not, ↓reduceIte, zget_0, zget_1, zget_2, zget_3, zget_4, zget_5, zget_6, zget_7, zget_8, zget_9, zget_10, zset_0, zset_1, zset_2, zset_3, zset_4, zset_5, zset_6, zset_7, zset_8, zset_9, zset_10, k0, r0, r1, r2, r3, wp_iaload k1, wp_iaload k2, wp_iaload k3, wp_iaload k4, wp_iastore k1, wp_iastore k2, wp_iastore k3, wp_iastore k4, show ¬ (24 : Int) ≤ k by omega, c_set ht, hv, zu_setc, setc_at, setc_setc, ih, e, and_self]
      grind
    · rw [if_neg hv] at e
      simp (disch := omega) only [en_72, wp_ireturn rk_72, pg_72_0, pg_72_36, pg_72_61, pg_72_67, pg_72_115, pg_72_121, cw_50, cw_51, cw_58, cw_67, wp_iload, wp_aload, wp_istore, wp_astore, wp_iinc, wp_iconst, wp_dup, wp_dup2, wp_pop, wp_iadd, wp_isub, wp_imul, wp_idiv, wp_irem, wp_ineg, wp_iand, wp_ior, wp_ixor, wp_ishl, wp_ishr, wp_getI, wp_putI, wp_getR, wp_goto, wp_goto_w, wq_if_eq, wq_if_ne, wq_if_lt, wq_if_ge, wq_if_gt, wq_if_le, wq_icmp_eq, wq_icmp_ne, wq_icmp_lt, wq_icmp_ge, wq_icmp_gt, wq_icmp_le, wp_max, wp_min, kI_inl, kR_some, kN_inl, kO_some, KT_none, KT_some, List.length_cons, List.length_nil, Nat.reduceAdd, Nat.reduceLT, Nat.reduceLeDiff, Nat.reduceMod, Nat.reduceDiv, true_and, and_true, Int.reduceLE, Int.reduceNeg, Int.reduceLT, Int.cast_ofNat_Int, Nat.zero_le, zI, Int.reduceAdd, Int.reduceSub, Int.reduceMul, not_true_eq_false, not_false_eq_true, false_implies, true_implies, i01_0, i01_1, ite_not, ↓reduceIte, zget_0, zget_1, zget_2, zget_3, zget_4, zget_5, zget_6, zget_7, zget_8, zget_9, zget_10, zset_0, zset_1, zset_2, zset_3, zset_4, zset_5, zset_6, zset_7, zset_8, zset_9, zset_10, k0, r0, r1, r2, r3, wp_iaload k1, wp_iaload k2, wp_iaload k3, wp_iaload k4, wp_iastore k1, wp_iastore k2, wp_iastore k3, wp_iastore k4, show ¬ (24 : Int) ≤ k by omega, c_set ht, hv, zu_setc, setc_at, setc_setc, ih, e]
      grind
end TY
