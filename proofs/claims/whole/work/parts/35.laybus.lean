/-! THE CLASS'S POWER-UP: laying a BUS -/
section PL
variable {d s t u o : Nat} {im : zM} {Q : Option zV → zM → Prop} {a b v dv kd sl i j k bg : Int}
def stc (c : Int → Int) (dv f v : Int) : Int → Int := if 0 ≤ dv ∧ dv < 20 ∧ 0 ≤ f ∧ f < 24 then ups c (dv * 24 + f) v else c
theorem c_set3 (ht : zT t) {c : Int → Int} {z : zSS} {f : Int} : CallP d 50 [.inr (some t), .inl dv, .inl f, .inl v] (mt2 im t c z) Q ↔ Q none (mt2 im t (stc c dv f v) z) := by
  unfold stc
  split
  · rename_i h
    exact c_set2 ht h
  · rename_i h
    rw [c_set ht, if_neg h]
def lbf (z : zSS) (bg k i : Int) (c : Int → Int) : Int → Int := stc c (z.1 i) (if z.2.1 i = -1 then 18 + k else 15 + z.2.1 i) (bg + z.2.2.2.2.1 i)
def LBH (z : zSS) (bg : Int) : Prop := ∀ i : Int, 0 ≤ i → i < 27 → i < z.2.2.2.2.2 → (-1 ≤ z.2.1 i ∧ z.2.1 i ≤ 2) ∧ (-2147483648 ≤ bg + z.2.2.2.2.1 i ∧ bg + z.2.2.2.2.1 i ≤ 2147483647)
theorem l_lab (ht : zT t) {z : zSS} (hk : 0 ≤ k ∧ k < 2) (hb : LBH z bg) : ∀ (m : Nat) (i : Int) (c : Int → Int) (x6 x7 : zV), 0 ≤ i → i + m = 27 → ∀ Q, wp none (d + 1) 25 (zpg 25 19) [.inr (some 131), .inr (some t), .inl a, .inl k, .inl bg, .inl i, x6, x7] [] (mt2 im t c z) Q ↔ Q none (mt2 im t (lp (lbf z bg k) (min z.2.2.2.2.2 27 - i).toNat i c) z)
  | 0, i, c, x6, x7, h0, h1, Q => by
    have e0 : (min z.2.2.2.2.2 27 - i).toNat = 0 := by omega
    have m0 : ∀ c, mt2 im t c z 132 5 = z.2.2.2.2.2 := fun c => sth_n _ 132 _
    rw [pg_25_19, e0]
    simp (disch := omega) only [en_25, wp_return rk_25, pg_25_0, pg_25_63, pg_25_68, pg_25_105, cw_23, cw_50, cw_59, wp_iload, wp_aload, wp_istore, wp_astore, wp_iinc, wp_iconst, wp_dup, wp_dup2, wp_pop, wp_iadd, wp_isub, wp_imul, wp_idiv, wp_irem, wp_ineg, wp_iand, wp_ior, wp_ixor, wp_ishl, wp_ishr, wp_getI, wp_putI, wp_getR, wp_goto, wp_goto_w, wq_if_eq, wq_if_ne, wq_if_lt, wq_if_ge, wq_if_gt, wq_if_le, wq_icmp_eq, wq_icmp_ne, wq_icmp_lt, wq_icmp_ge, wq_icmp_gt, wq_icmp_le, wp_max, wp_min, kI_inl, kR_some, kN_inl, kO_some, KT_none, KT_some, List.length_cons, List.length_nil, Nat.reduceAdd, Nat.reduceLT, Nat.reduceLeDiff, Nat.reduceMod, Nat.reduceDiv, true_and, and_true, Int.reduceLE, Int.reduceNeg, Int.reduceLT, Int.cast_ofNat_Int, Nat.zero_le, zI, Int.reduceAdd, Int.reduceSub, Int.reduceMul, not_true_eq_false, not_false_eq_true, false_implies, true_implies, i01_0, i01_1, ite_not, ↓reduceIte, zget_0, zget_1, zget_2, zget_3, zget_4, zget_5, zget_6, zget_7, zget_8, zget_9, zget_10, zset_0, zset_1, zset_2, zset_3, zset_4, zset_5, zset_6, zset_7, zset_8, zset_9, zset_10, kd_131, kd_132, rf_131_0, m0, lp, show 27 ≤ i by omega, if_true]
    grind
  | m + 1, i, c, x6, x7, h0, h1, Q => by
    have ih := l_lab ht hk hb m (i + 1)
    have k0 := (zT_k ht).1
    have k1 : K0[133]? = some (0, 27) := (zSh_k zSh_132).2.1
    have k2 : K0[134]? = some (0, 27) := (zSh_k zSh_132).2.2.1
    have k5 : K0[137]? = some (0, 27) := (zSh_k zSh_132).2.2.2.2.2
    have r0 : R0 132 0 = some 133 := (zSh_r0 _ zSh_132).1
    have r1 : R0 132 1 = some 134 := (zSh_r0 _ zSh_132).2.1
    have r4 : R0 132 4 = some 137 := (zSh_r0 _ zSh_132).2.2.2.2
    have m0 : ∀ c, mt2 im t c z 132 5 = z.2.2.2.2.2 := fun c => sth_n _ 132 _
    have m1 : ∀ c, mt2 im t c z 133 = z.1 := fun c => sth_1 _ 132 _
    have m2 : ∀ c, mt2 im t c z 134 = z.2.1 := fun c => sth_2 _ 132 _
    have m5 : ∀ c, mt2 im t c z 137 = z.2.2.2.2.1 := fun c => sth_5 _ 132 _
    rw [pg_25_19]
    by_cases h : z.2.2.2.2.2 ≤ i
    · have e0 : (min z.2.2.2.2.2 27 - i).toNat = 0 := by omega
      rw [e0]
      simp (disch := omega) only [en_25, wp_return rk_25, pg_25_0, pg_25_63, pg_25_68, pg_25_105, cw_23, cw_50, cw_59, wp_iload, wp_aload, wp_istore, wp_astore, wp_iinc, wp_iconst, wp_dup, wp_dup2, wp_pop, wp_iadd, wp_isub, wp_imul, wp_idiv, wp_irem, wp_ineg, wp_iand, wp_ior, wp_ixor, wp_ishl, wp_ishr, wp_getI, wp_putI, wp_getR, wp_goto, wp_goto_w, wq_if_eq, wq_if_ne, wq_if_lt, wq_if_ge, wq_if_gt, wq_if_le, wq_icmp_eq, wq_icmp_ne, wq_icmp_lt, wq_icmp_ge, wq_icmp_gt, wq_icmp_le, wp_max, wp_min, kI_inl, kR_some, kN_inl, kO_some, KT_none, KT_some, List.length_cons, List.length_nil, Nat.reduceAdd, Nat.reduceLT, Nat.reduceLeDiff, Nat.reduceMod, Nat.reduceDiv, true_and, and_true, Int.reduceLE, Int.reduceNeg, Int.reduceLT, Int.cast_ofNat_Int, Nat.zero_le, zI, Int.reduceAdd, Int.reduceSub, Int.reduceMul, not_true_eq_false, not_false_eq_true, false_implies, true_implies, i01_0, i01_1, ite_not, ↓reduceIte, zget_0, zget_1, zget_2, zget_3, zget_4, zget_5, zget_6, zget_7, zget_8, zget_9, zget_10, zset_0, zset_1, zset_2, zset_3, zset_4, zset_5, zset_6, zset_7, zset_8, zset_9, zset_10, kd_131, kd_132, rf_131_0, m0, lp, h, if_true]
    · have e0 : (min z.2.2.2.2.2 27 - i).toNat = (min z.2.2.2.2.2 27 - (i + 1)).toNat + 1 := by omega
      have b1 := (hb i h0 (by omega) (by omega)).1
      have b2 := (hb i h0 (by omega) (by omega)).2
      rw [e0]
      simp (disch := omega) only [en_25, wp_return rk_25, pg_25_0, pg_25_63, pg_25_68, pg_25_105, cw_23, cw_50, cw_59, wp_iload, wp_aload, wp_istore, wp_astore, wp_iinc, wp_iconst, wp_dup, wp_dup2, wp_pop, wp_iadd, wp_isub, wp_imul, wp_idiv, wp_irem, wp_ineg, wp_iand, wp_ior, wp_ixor, wp_ishl, wp_ishr, wp_getI, wp_putI, wp_getR, wp_goto, wp_goto_w, wq_if_eq, wq_if_ne, wq_if_lt, wq_if_ge, wq_if_gt, wq_if_le, wq_icmp_eq, wq_icmp_ne, wq_icmp_lt, wq_icmp_ge, wq_icmp_gt, wq_icmp_le, wp_max, wp_min, kI_inl, kR_some, kN_inl, kO_some, KT_none, KT_some, List.length_cons, List.length_nil, Nat.reduceAdd, Nat.reduceLT, Nat.reduceLeDiff, Nat.reduceMod, Nat.reduceDiv, true_and, and_true, Int.reduceLE, Int.reduceNeg, Int.reduceLT, Int.cast_ofNat_Int, Nat.zero_le, zI, Int.reduceAdd, Int.reduceSub, Int.reduceMul, not_true_eq_false, not_false_eq_true, false_implies, true_implies, i01_0, i01_1, ite_not, ↓reduceIte, zget_0, zget_1, zget_2, zget_3, zget_4, zget_5, zget_6, zget_7, zget_8, zget_9, zget_10, zset_0, zset_1, zset_2, zset_3, zset_4, zset_5, zset_6, zset_7, zset_8, zset_9, zset_10, kd_131, kd_132, rf_131_0, r0, r1, r4, wp_iaload k1, wp_iaload k2, wp_iaload k5, m0, m1, m2, m5, h, if_false, show ¬ 27 ≤ i by omega, c_set3 ht, ih, lp, lbf]
      clear ih
      by_cases h2 : z.2.1 i = -1
      · simp only [h2, if_true]
        repeat (refine (and_iff_right (by omega)).trans ?_)
        exact Iff.rfl
      · simp only [h2, if_false]
        repeat (refine (and_iff_right (by omega)).trans ?_)
        exact Iff.rfl
noncomputable def labS (c w : Int → Int) (n a k : Int) (z : zSS) : (Int → Int) × zSS := (lp (lbf (ndS c w n a k z).2 (begf c a k) k) (min (ndS c w n a k z).2.2.2.2.2.2 27).toNat 0 c, (ndS c w n a k z).2)
theorem c_layBus (ht : zT t) {c w : Int → Int} {n : Int} {z : zSS} (hW : im (t + 3) = w) (hN : im t 4 = n) (hb : TB c) (hw : TW c k) (hk : 0 ≤ k ∧ k < 2) (hn : n ≤ 20) (hl : LBH (ndS c w n a k z).2 (begf c a k)) : CallP (d + 5) 25 [.inr (some 131), .inr (some t), .inl a, .inl k] (mt2 im t c z) Q ↔ Q none (mt2 im t (labS c w n a k z).1 (labS c w n a k z).2) := by
  have k0 := (zT_k ht).1
  have h1 := l_lab (d := d + 4) (im := im) (a := a) ht hk hl 27 0 c (.inr none) (.inr none) (by omega) (by omega)
  simp (disch := first | omega | assumption) only [en_25, wp_return rk_25, pg_25_0, pg_25_63, pg_25_68, pg_25_105, cw_23, cw_50, cw_59, wp_iload, wp_aload, wp_istore, wp_astore, wp_iinc, wp_iconst, wp_dup, wp_dup2, wp_pop, wp_iadd, wp_isub, wp_imul, wp_idiv, wp_irem, wp_ineg, wp_iand, wp_ior, wp_ixor, wp_ishl, wp_ishr, wp_getI, wp_putI, wp_getR, wp_goto, wp_goto_w, wq_if_eq, wq_if_ne, wq_if_lt, wq_if_ge, wq_if_gt, wq_if_le, wq_icmp_eq, wq_icmp_ne, wq_icmp_lt, wq_icmp_ge, wq_icmp_gt, wq_icmp_le, wp_max, wp_min, kI_inl, kR_some, kN_inl, kO_some, KT_none, KT_some, List.length_cons, List.length_nil, Nat.reduceAdd, Nat.reduceLT, Nat.reduceLeDiff, Nat.reduceMod, Nat.reduceDiv, true_and, and_true, Int.reduceLE, Int.reduceNeg, Int.reduceLT, Int.cast_ofNat_Int, Nat.zero_le, zI, Int.reduceAdd, Int.reduceSub, Int.reduceMul, not_true_eq_false, not_false_eq_true, false_implies, true_implies, i01_0, i01_1, ite_not, ↓reduceIte, zget_0, zget_1, zget_2, zget_3, zget_4, zget_5, zget_6, zget_7, zget_8, zget_9, zget_10, zset_0, zset_1, zset_2, zset_3, zset_4, zset_5, zset_6, zset_7, zset_8, zset_9, zset_10, kd_131, k0, c_need2 ht hW hN hb hw hk hn, c_begin ht, mt2_c ht, h1]
  simp only [Int.sub_zero]
  rfl
end PL
