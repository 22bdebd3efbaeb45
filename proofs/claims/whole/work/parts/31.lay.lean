/-! THE CLASS'S SHELF: order, lay, total -/
section SL
variable {d s t u o : Nat} {im : zM} {Q : Option zV → zM → Prop} {a b v dv kd sl i j : Int}
theorem ordI_n : ∀ (j : Nat) (z : zSS), (ordI j z).2.2.2.2.2 = z.2.2.2.2.2
  | 0, z => by simp only [ordI]
  | j + 1, z => by
    simp only [ordI]
    split
    · rw [ordI_n j]
      rfl
    · rfl
noncomputable def ordf (i : Int) (z : zSS) : zSS := ordI i.toNat z
noncomputable def ordS (z : zSS) : zSS := lp ordf (min z.2.2.2.2.2 27 - 1).toNat 1 z
theorem l_ord (hs : zSh s) : ∀ (n : Nat) (i : Int), 1 ≤ i → i + n = 27 → ∀ (im : zM) (x2 : zV) Q, wp none (d + 1) 37 (zpg 37 2) [.inr (some s), .inl i, x2] [] im Q ↔ Q none (sth im s (lp ordf (min (im s 5) 27 - i).toNat i (gsh im s)))
  | 0, i, h0, h1, im, x2, Q => by
    have k0 := (zSh_k hs).1
    have k1 := (zSh_k hs).2.1
    have k2 := (zSh_k hs).2.2.1
    have k3 := (zSh_k hs).2.2.2.1
    have k4 := (zSh_k hs).2.2.2.2.1
    have k5 := (zSh_k hs).2.2.2.2.2
    have r0 := (zSh_r0 _ hs).1
    have r1 := (zSh_r0 _ hs).2.1
    have r2 := (zSh_r0 _ hs).2.2.1
    have r3 := (zSh_r0 _ hs).2.2.2.1
    have r4 := (zSh_r0 _ hs).2.2.2.2
    have e : (min (im s 5) 27 - i).toNat = 0 := by omega
    rw [pg_37_2, e]
    simp (disch := omega) only [en_37, wp_return rk_37, pg_37_0, pg_37_79, pg_37_85, cw_38, cw_39, wp_iload, wp_aload, wp_istore, wp_astore, wp_iinc, wp_iconst, wp_dup, wp_dup2, wp_pop, wp_iadd, wp_isub, wp_imul, wp_idiv, wp_irem, wp_ineg, wp_iand, wp_ior, wp_ixor, wp_ishl, wp_ishr, wp_getI, wp_putI, wp_getR, wp_goto, wp_goto_w, wq_if_eq, wq_if_ne, wq_if_lt, wq_if_ge, wq_if_gt, wq_if_le, wq_icmp_eq, wq_icmp_ne, wq_icmp_lt, wq_icmp_ge, wq_icmp_gt, wq_icmp_le, wp_max, wp_min, kI_inl, kR_some, kN_inl, kO_some, KT_none, KT_some, List.length_cons, List.length_nil, Nat.reduceAdd, Nat.reduceLT, Nat.reduceLeDiff, Nat.reduceMod, Nat.reduceDiv, true_and, and_true, Int.reduceLE, Int.reduceNeg, Int.reduceLT, Int.cast_ofNat_Int, Nat.zero_le, zI, Int.reduceAdd, Int.reduceSub, Int.reduceMul, not_true_eq_false, not_false_eq_true, false_implies, true_implies, i01_0, i01_1, ite_not, ↓reduceIte, zget_0, zget_1, zget_2, zget_3, zget_4, zget_5, zget_6, zget_7, zget_8, zget_9, zget_10, zset_0, zset_1, zset_2, zset_3, zset_4, zset_5, zset_6, zset_7, zset_8, zset_9, zset_10, k0, r0, r1, r2, r3, r4, wp_iaload k1, wp_iaload k2, wp_iaload k3, wp_iaload k4, wp_iaload k5, wp_iastore k1, wp_iastore k2, wp_iastore k3, wp_iastore k4, wp_iastore k5, lp, sth_gsh, show 27 ≤ i by omega, if_true]
    clear k0 k1 k2 k3 k4 k5 r0 r1 r2 r3 r4
    grind
  | n + 1, i, h0, h1, im, x2, Q => by
    have k0 := (zSh_k hs).1
    have k1 := (zSh_k hs).2.1
    have k2 := (zSh_k hs).2.2.1
    have k3 := (zSh_k hs).2.2.2.1
    have k4 := (zSh_k hs).2.2.2.2.1
    have k5 := (zSh_k hs).2.2.2.2.2
    have r0 := (zSh_r0 _ hs).1
    have r1 := (zSh_r0 _ hs).2.1
    have r2 := (zSh_r0 _ hs).2.2.1
    have r3 := (zSh_r0 _ hs).2.2.2.1
    have r4 := (zSh_r0 _ hs).2.2.2.2
    have ih := l_ord hs n (i + 1) (by omega) (by omega)
    have hl := l_ordI (d := d) hs (i := i) (by omega) (F := fun im => sth im s (lp ordf (min (im s 5) 27 - (i + 1)).toNat (i + 1) (gsh im s))) ih i.toNat im (by omega)
    have ei : ((i.toNat : Nat) : Int) = i := by omega
    rw [ei] at hl
    rw [pg_37_2]
    simp (disch := omega) only [en_37, wp_return rk_37, pg_37_0, pg_37_79, pg_37_85, cw_38, cw_39, wp_iload, wp_aload, wp_istore, wp_astore, wp_iinc, wp_iconst, wp_dup, wp_dup2, wp_pop, wp_iadd, wp_isub, wp_imul, wp_idiv, wp_irem, wp_ineg, wp_iand, wp_ior, wp_ixor, wp_ishl, wp_ishr, wp_getI, wp_putI, wp_getR, wp_goto, wp_goto_w, wq_if_eq, wq_if_ne, wq_if_lt, wq_if_ge, wq_if_gt, wq_if_le, wq_icmp_eq, wq_icmp_ne, wq_icmp_lt, wq_icmp_ge, wq_icmp_gt, wq_icmp_le, wp_max, wp_min, kI_inl, kR_some, kN_inl, kO_some, KT_none, KT_some, List.length_cons, List.length_nil, Nat.reduceAdd, Nat.reduceLT, Nat.reduceLeDiff, Nat.reduceMod, Nat.reduceDiv, true_and, and_true, Int.reduceLE, Int.reduceNeg, Int.reduceLT, Int.cast_ofNat_Int, Nat.zero_le, zI, Int.reduceAdd, Int.reduceSub, Int.reduceMul, not_true_eq_false, not_false_eq_true, false_implies, true_implies, i01_0, i01_1, ite_not, ↓reduceIte, zget_0, zget_1, zget_2, zget_3, zget_4, zget_5, zget_6, zget_7, zget_8, zget_9, zget_10, zset_0, zset_1, zset_2, zset_3, zset_4, zset_5, zset_6, zset_7, zset_8, zset_9, zset_10, k0, r0, r1, r2, r3, r4, wp_iaload k1, wp_iaload k2, wp_iaload k3, wp_iaload k4, wp_iaload k5, wp_iastore k1, wp_iastore k2, wp_iastore k3, wp_iastore k4, wp_iastore k5, show ¬ 27 ≤ i by omega, if_false, hl, sth_n, gsh_sth, sth_sth, ordI_n]
    clear k0 k1 k2 k3 k4 k5 r0 r1 r2 r3 r4
    clear hl ih
    have g : (gsh im s).2.2.2.2.2 = im s 5 := rfl
    rw [g]
    by_cases h : im s 5 ≤ i
    · have e : (min (im s 5) 27 - i).toNat = 0 := by omega
      simp only [h, if_true, e, lp, sth_gsh]
    · have e : (min (im s 5) 27 - i).toNat = (min (im s 5) 27 - (i + 1)).toNat + 1 := by omega
      simp only [h, if_false, e, lp]
      rfl
theorem c_order (hs : zSh s) : CallP (d + 1) 37 [.inr (some s)] im Q ↔ Q none (sth im s (ordS (gsh im s))) := by
  have hl := l_ord (d := d) hs 26 1 (by omega) (by omega)
  simp (disch := omega) only [en_37, wp_return rk_37, pg_37_0, pg_37_79, pg_37_85, cw_38, cw_39, wp_iload, wp_aload, wp_istore, wp_astore, wp_iinc, wp_iconst, wp_dup, wp_dup2, wp_pop, wp_iadd, wp_isub, wp_imul, wp_idiv, wp_irem, wp_ineg, wp_iand, wp_ior, wp_ixor, wp_ishl, wp_ishr, wp_getI, wp_putI, wp_getR, wp_goto, wp_goto_w, wq_if_eq, wq_if_ne, wq_if_lt, wq_if_ge, wq_if_gt, wq_if_le, wq_icmp_eq, wq_icmp_ne, wq_icmp_lt, wq_icmp_ge, wq_icmp_gt, wq_icmp_le, wp_max, wp_min, kI_inl, kR_some, kN_inl, kO_some, KT_none, KT_some, List.length_cons, List.length_nil, Nat.reduceAdd, Nat.reduceLT, Nat.reduceLeDiff, Nat.reduceMod, Nat.reduceDiv, true_and, and_true, Int.reduceLE, Int.reduceNeg, Int.reduceLT, Int.cast_ofNat_Int, Nat.zero_le, zI, Int.reduceAdd, Int.reduceSub, Int.reduceMul, not_true_eq_false, not_false_eq_true, false_implies, true_implies, i01_0, i01_1, ite_not, ↓reduceIte, zget_0, zget_1, zget_2, zget_3, zget_4, zget_5, zget_6, zget_7, zget_8, zget_9, zget_10, zset_0, zset_1, zset_2, zset_3, zset_4, zset_5, zset_6, zset_7, zset_8, zset_9, zset_10, hl, ordS]
  rfl
end SL
