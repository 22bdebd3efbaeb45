/-! THE CLASS'S SHELF: order, lay, total -/
section SL
variable {d s t u o : Nat} {im : zM} {Q : Option zV → zM → Prop} {a b v dv kd sl i j : Int}
theorem ordI_n : ∀ (j : Nat) (z : zSS), (ordI j z).2.2.2.2.2 = z.2.2.2.2.2
  | 0, z => by simp only [ordI]
  | j + 1, z => by
    simp only [ordI]
    split
    · rw [ordI_n j]
      rfl
    · rfl
noncomputable def ordf (i : Int) (z : zSS) : zSS := ordI i.toNat z
noncomputable def ordS (z : zSS) : zSS := lp ordf (min z.2.2.2.2.2 27 - 1).toNat 1 z
theorem l_ord (hs : zSh s) : ∀ (n : Nat) (i : Int), 1 ≤ i → i + n = 27 → ∀ (im : zM) (x2 : zV) Q, wp none (d + 1) 37 (zpg 37 2) [.inr (some s), .inl i, x2] [] im Q ↔ Q none (sth im s (lp ordf (min (im s 5) 27 - i).toNat i (gsh im s)))
  | 0, i, h0, h1, im, x2, Q => by
    have k0 := (zSh_k hs).1
    have k1 := (zSh_k hs).2.1
    have k2 := (zSh_k hs).2.2.1
    have k3 := (zSh_k hs).2.2.2.1
    have k4 := (zSh_k hs).2.2.2.2.1
    have k5 := (zSh_k hs).2.2.2.2.2
    have r0 := (zSh_r0 _ hs).1
    have r1 := (zSh_r0 _ hs).2.1
    have r2 := (zSh_r0 _ hs).2.2.1
    have r3 := (zSh_r0 _ hs).2.2.2.1
    have r4 := (zSh_r0 _ hs).2.2.2.2
    have e : (min (im s 5) 27 - i).toNat = 0 := by omega
    rw [pg_37_2, e]
    simp (disch := omega) only [en_37, wp_return rk_37, pg_37_0, pg_37_79, pg_37_85, cw_38, cw_39, wp_iload, wp_aload, wp_istore, wp_astore, wp_iinc, wp_iconst, wp_dup, wp_dup2, wp_pop, wp_iadd, wp_isub, wp_imul, wp_idiv, wp_irem, wp_ineg, wp_iand, wp_ior, wp_ixor, wp_ishl, wp_ishr, wp_getI, wp_putI, wp_getR, wp_goto, wp_goto_w, wq_if_eq, wq_if_ne, wq_if_lt, wq_if_ge, wq_if_gt, wq_if_le, wq_icmp_eq, wq_icmp_ne, wq_icmp_lt, wq_icmp_ge, wq_icmp_gt, wq_icmp_le, wp_max, wp_min, kI_inl, kR_some, kN_inl, kO_some, KT_none, KT_some, List.length_cons, List.length_nil, Nat.reduceAdd, Nat.reduceLT, Nat.reduceLeDiff, Nat.reduceMod, Nat.reduceDiv, true_and, and_true, Int.reduceLE, Int.reduceNeg, Int.reduceLT, Int.cast_ofNat_Int, Nat.zero_le, zI, Int.reduceAdd, Int.reduceSub, Int.reduceMul, not_true_eq_false, not_false_eq_true, false_implies, true_implies, i01_0, i01_1, ite_not, ↓reduceIte, zget_0, zget_1, zget_2, zget_3, zget_4, zget_5, zget_6, zget_7, zget_8, zget_9, zget_10, zset_0, zset_1, zset_2, zset_3, zset_4, zset_5, zset_6, zset_7, zset_8, zset_9, zset_10, k0, r0, r1, r2, r3, r4, wp_iaload k1, wp_iaload k2, wp_iaload k3, wp_iaload k4, wp_iaload k5, wp_iastore k1, wp_iastore k2, wp_iastore k3, wp_iastore k4, wp_iastore k5, lp, sth_gsh, show 27 ≤ i by omega, if_true]
    clear k0 k1 k2 k3 k4 k5 r0 r1 r2 r3 r4
    grind
  | n + 1, i, h0, h1, im, x2, Q => by
    have k0 := (zSh_k hs).1
    have k1 := (zSh_k hs).2.1
    have k2 := (zSh_k hs).2.2.1
    have k3 := (zSh_k hs).2.2.2.1
    have k4 := (zSh_k hs).2.2.2.2.1
    have k5 := (zSh_k hs).2.2.2.2.2
    have r0 := (zSh_r0 _ hs).1
    have r1 := (zSh_r0 _ hs).2.1
    have r2 := (zSh_r0 _ hs).2.2.1
    have r3 := (zSh_r0 _ hs).2.2.2.1
    have r4 := (zSh_r0 _ hs).2.2.2.2
    have ih := l_ord hs n (i + 1) (by omega) (by omega)
    have hl := l_ordI (d := d) hs (i := i) (by omega) (F := fun im => sth im s (lp ordf (min (im s 5) 27 - (i + 1)).toNat (i + 1) (gsh im s))) ih i.toNat im (by omega)
    have ei : ((i.toNat : Nat) : Int) = i := by omega
    rw [ei] at hl
    rw [pg_37_2]
    simp (disch := omega) only [en_37, wp_return rk_37, pg_37_0, pg_37_79, pg_37_85, cw_38, cw_39, wp_iload, wp_aload, wp_istore, wp_astore, wp_iinc, wp_iconst, wp_dup, wp_dup2, wp_pop, wp_iadd, wp_isub, wp_imul, wp_idiv, wp_irem, wp_ineg, wp_iand, wp_ior, wp_ixor, wp_ishl, wp_ishr, wp_getI, wp_putI, wp_getR, wp_goto, wp_goto_w, wq_if_eq, wq_if_ne, wq_if_lt, wq_if_ge, wq_if_gt, wq_if_le, wq_icmp_eq, wq_icmp_ne, wq_icmp_lt, wq_icmp_ge, wq_icmp_gt, wq_icmp_le, wp_max, wp_min, kI_inl, kR_some, kN_inl, kO_some, KT_none, KT_some, List.length_cons, List.length_nil, Nat.reduceAdd, Nat.reduceLT, Nat.reduceLeDiff, Nat.reduceMod, Nat.reduceDiv, true_and, and_true, Int.reduceLE, Int.reduceNeg, Int.reduceLT, Int.cast_ofNat_Int, Nat.zero_le, zI, Int.reduceAdd, Int.reduceSub, Int.reduceMul, not_true_eq_false, not_false_eq_true, false_implies, true_implies, i01_0, i01_1, ite_not, ↓reduceIte, zget_0, zget_1, zget_2, zget_3, zget_4, zget_5, zget_6, zget_7, zget_8, zget_9, zget_10, zset_0, zset_1, zset_2, zset_3, zset_4, zset_5, zset_6, zset_7, zset_8, zset_9, zset_10, k0, r0, r1, r2, r3, r4, wp_iaload k1, wp_iaload k2, wp_iaload k3, wp_iaload k4, wp_iaload k5, wp_iastore k1, wp_iastore k2, wp_iastore k3, wp_iastore k4, wp_iastore k5, show ¬ 27 ≤ i by omega, if_false, hl, sth_n, gsh_sth, sth_sth, ordI_n]
    clear k0 k1 k2 k3 k4 k5 r0 r1 r2 r3 r4
    clear hl ih
    have g : (gsh im s).2.2.2.2.2 = im s 5 := rfl
    rw [g]
    by_cases h : im s 5 ≤ i
    · have e : (min (im s 5) 27 - i).toNat = 0 := by omega
      simp only [h, if_true, e, lp, sth_gsh]
    · have e : (min (im s 5) 27 - i).toNat = (min (im s 5) 27 - (i + 1)).toNat + 1 := by omega
      simp only [h, if_false, e, lp]
      rfl
theorem c_order (hs : zSh s) : CallP (d + 1) 37 [.inr (some s)] im Q ↔ Q none (sth im s (ordS (gsh im s))) := by
  have hl := l_ord (d := d) hs 26 1 (by omega) (by omega)
  simp (disch := omega) only [en_37, wp_return rk_37, pg_37_0, pg_37_79, pg_37_85, cw_38, cw_39, wp_iload, wp_aload, wp_istore, wp_astore, wp_iinc, wp_iconst, wp_dup, wp_dup2, wp_pop, wp_iadd, wp_isub, wp_imul, wp_idiv, wp_irem, wp_ineg, wp_iand, wp_ior, wp_ixor, wp_ishl, wp_ishr, wp_getI, wp_putI, wp_getR, wp_goto, wp_goto_w, wq_if_eq, wq_if_ne, wq_if_lt, wq_if_ge, wq_if_gt, wq_if_le, wq_icmp_eq, wq_icmp_ne, wq_icmp_lt, wq_icmp_ge, wq_icmp_gt, wq_icmp_le, wp_max, wp_min, kI_inl, kR_some, kN_inl, kO_some, KT_none, KT_some, List.length_cons, List.length_nil, Nat.reduceAdd, Nat.reduceLT, Nat.reduceLeDiff, Nat.reduceMod, Nat.reduceDiv, true_and, and_true, Int.reduceLE, Int.reduceNeg, Int.reduceLT, Int.cast_ofNat_Int, Nat.zero_le, zI, Int.reduceAdd, Int.reduceSub, Int.reduceMul, not_true_eq_false, not_false_eq_true, false_implies, true_implies, i01_0, i01_1, ite_not, ↓reduceIte, zget_0, zget_1, zget_2, zget_3, zget_4, zget_5, zget_6, zget_7, zget_8, zget_9, zget_10, zset_0, zset_1, zset_2, zset_3, zset_4, zset_5, zset_6, zset_7, zset_8, zset_9, zset_10, hl, ordS]
  rfl
theorem zand_nat {x y : Int} (h : 0 ≤ x) (h1 : x ≤ 2147483647) : zand x y = ((x.toNat &&& (BitVec.ofInt 32 y).toNat : Nat) : Int) := by
  have e : zand x y = (BitVec.ofInt 32 x &&& BitVec.ofInt 32 y).toInt := rfl
  have ex : (BitVec.ofInt 32 x).toNat = x.toNat := by
    rw [BitVec.toNat_ofInt]
    omega
  have le : x.toNat &&& (BitVec.ofInt 32 y).toNat ≤ x.toNat := Nat.and_le_left
  rw [e, BitVec.toInt_eq_toNat_cond, BitVec.toNat_and, ex]
  split
  · rfl
  · omega
theorem zand_le {x y : Int} (h : 0 ≤ x) (h1 : x ≤ 2147483647) : 0 ≤ zand x y ∧ zand x y ≤ x := by
  have le : x.toNat &&& (BitVec.ofInt 32 y).toNat ≤ x.toNat := Nat.and_le_left
  rw [zand_nat h h1]
  omega
theorem rup_le {v st : Int} (h : 0 ≤ v + st - 1) (h1 : v + st - 1 ≤ 2147483647) : 0 ≤ rup v st ∧ rup v st ≤ v + st - 1 := zand_le h h1
def SBd (z : zSS) : Prop := ∀ i : Int, 0 ≤ i → i < 27 → i < z.2.2.2.2.2 → (1 ≤ z.2.2.1 i ∧ z.2.2.1 i ≤ 1048576) ∧ (0 ≤ z.2.2.2.1 i ∧ z.2.2.2.1 i ≤ 33554432)
def lyf (al sz : Int → Int) (i : Int) (y : Int × (Int → Int)) : Int × (Int → Int) := (rup y.1 (al i) + sz i, ups y.2 i (rup y.1 (al i)))
def layS (z : zSS) : Int × (Int → Int) := lp (lyf z.2.2.1 z.2.2.2.1) (min z.2.2.2.2.2 27).toNat 0 (0, z.2.2.2.2.1)
theorem l_lay (hs : zSh s) {al sz : Int → Int} {N : Int} (hb : ∀ i : Int, 0 ≤ i → i < 27 → i < N → (1 ≤ al i ∧ al i ≤ 1048576) ∧ (0 ≤ sz i ∧ sz i ≤ 33554432)) : ∀ (n : Nat) (i e : Int) (im : zM), 0 ≤ i → i + n = 27 → 0 ≤ e ∧ e ≤ i * 34603008 → im (s + 3) = al → im (s + 4) = sz → im s 5 = N → ∀ Q, wp none (d + 1) 40 (zpg 40 4) [.inr (some s), .inl e, .inl i] [] im Q ↔ Q (some (.inl (lp (lyf al sz) (min N 27 - i).toNat i (e, im (s + 5))).1)) (setc im (s + 5) (lp (lyf al sz) (min N 27 - i).toNat i (e, im (s + 5))).2)
  | 0, i, e, im, h0, h1, he, ha, hz, hN, Q => by
    have k0 := (zSh_k hs).1
    have k1 := (zSh_k hs).2.1
    have k2 := (zSh_k hs).2.2.1
    have k3 := (zSh_k hs).2.2.2.1
    have k4 := (zSh_k hs).2.2.2.2.1
    have k5 := (zSh_k hs).2.2.2.2.2
    have r0 := (zSh_r0 _ hs).1
    have r1 := (zSh_r0 _ hs).2.1
    have r2 := (zSh_r0 _ hs).2.2.1
    have r3 := (zSh_r0 _ hs).2.2.2.1
    have r4 := (zSh_r0 _ hs).2.2.2.2
    have e0 : (min N 27 - i).toNat = 0 := by omega
    rw [pg_40_4, e0]
    simp (disch := omega) only [en_40, wp_ireturn rk_40, pg_40_0, pg_40_54, cw_139, wp_iload, wp_aload, wp_istore, wp_astore, wp_iinc, wp_iconst, wp_dup, wp_dup2, wp_pop, wp_iadd, wp_isub, wp_imul, wp_idiv, wp_irem, wp_ineg, wp_iand, wp_ior, wp_ixor, wp_ishl, wp_ishr, wp_getI, wp_putI, wp_getR, wp_goto, wp_goto_w, wq_if_eq, wq_if_ne, wq_if_lt, wq_if_ge, wq_if_gt, wq_if_le, wq_icmp_eq, wq_icmp_ne, wq_icmp_lt, wq_icmp_ge, wq_icmp_gt, wq_icmp_le, wp_max, wp_min, kI_inl, kR_some, kN_inl, kO_some, KT_none, KT_some, List.length_cons, List.length_nil, Nat.reduceAdd, Nat.reduceLT, Nat.reduceLeDiff, Nat.reduceMod, Nat.reduceDiv, true_and, and_true, Int.reduceLE, Int.reduceNeg, Int.reduceLT, Int.cast_ofNat_Int, Nat.zero_le, zI, Int.reduceAdd, Int.reduceSub, Int.reduceMul, not_true_eq_false, not_false_eq_true, false_implies, true_implies, i01_0, i01_1, ite_not, ↓reduceIte, zget_0, zget_1, zget_2, zget_3, zget_4, zget_5, zget_6, zget_7, zget_8, zget_9, zget_10, zset_0, zset_1, zset_2, zset_3, zset_4, zset_5, zset_6, zset_7, zset_8, zset_9, zset_10, k0, r0, r1, r2, r3, r4, wp_iaload k1, wp_iaload k2, wp_iaload k3, wp_iaload k4, wp_iaload k5, wp_iastore k1, wp_iastore k2, wp_iastore k3, wp_iastore k4, wp_iastore k5, lp, hN, show 27 ≤ i by omega, if_true, setc_self]
    clear k0 k1 k2 k3 k4 k5 r0 r1 r2 r3 r4
    grind
  | n + 1, i, e, im, h0, h1, he, ha, hz, hN, Q => by
    have k0 := (zSh_k hs).1
    have k1 := (zSh_k hs).2.1
    have k2 := (zSh_k hs).2.2.1
    have k3 := (zSh_k hs).2.2.2.1
    have k4 := (zSh_k hs).2.2.2.2.1
    have k5 := (zSh_k hs).2.2.2.2.2
    have r0 := (zSh_r0 _ hs).1
    have r1 := (zSh_r0 _ hs).2.1
    have r2 := (zSh_r0 _ hs).2.2.1
    have r3 := (zSh_r0 _ hs).2.2.2.1
    have r4 := (zSh_r0 _ hs).2.2.2.2
    have ih := l_lay (N := N) hs hb n (i + 1)
    have b4 : (i + 1) * 34603008 = i * 34603008 + 34603008 := by omega
    rw [pg_40_4]
    by_cases h : N ≤ i
    · have e0 : (min N 27 - i).toNat = 0 := by omega
      rw [e0]
      simp (disch := omega) only [en_40, wp_ireturn rk_40, pg_40_0, pg_40_54, cw_139, wp_iload, wp_aload, wp_istore, wp_astore, wp_iinc, wp_iconst, wp_dup, wp_dup2, wp_pop, wp_iadd, wp_isub, wp_imul, wp_idiv, wp_irem, wp_ineg, wp_iand, wp_ior, wp_ixor, wp_ishl, wp_ishr, wp_getI, wp_putI, wp_getR, wp_goto, wp_goto_w, wq_if_eq, wq_if_ne, wq_if_lt, wq_if_ge, wq_if_gt, wq_if_le, wq_icmp_eq, wq_icmp_ne, wq_icmp_lt, wq_icmp_ge, wq_icmp_gt, wq_icmp_le, wp_max, wp_min, kI_inl, kR_some, kN_inl, kO_some, KT_none, KT_some, List.length_cons, List.length_nil, Nat.reduceAdd, Nat.reduceLT, Nat.reduceLeDiff, Nat.reduceMod, Nat.reduceDiv, true_and, and_true, Int.reduceLE, Int.reduceNeg, Int.reduceLT, Int.cast_ofNat_Int, Nat.zero_le, zI, Int.reduceAdd, Int.reduceSub, Int.reduceMul, not_true_eq_false, not_false_eq_true, false_implies, true_implies, i01_0, i01_1, ite_not, ↓reduceIte, zget_0, zget_1, zget_2, zget_3, zget_4, zget_5, zget_6, zget_7, zget_8, zget_9, zget_10, zset_0, zset_1, zset_2, zset_3, zset_4, zset_5, zset_6, zset_7, zset_8, zset_9, zset_10, k0, r0, r1, r2, r3, r4, wp_iaload k1, wp_iaload k2, wp_iaload k3, wp_iaload k4, wp_iaload k5, wp_iastore k1, wp_iastore k2, wp_iastore k3, wp_iastore k4, wp_iastore k5, lp, hN, h, if_true, setc_self]
    · have e0 : (min N 27 - i).toNat = (min N 27 - (i + 1)).toNat + 1 := by omega
      have b1 := (hb i h0 (by omega) (by omega)).1
      have b2 := (hb i h0 (by omega) (by omega)).2
      have b3 := rup_le (v := e) (st := al i) (by omega) (by omega)
      rw [e0]
      simp (disch := first | omega | (simp (disch := omega) only [setc_ne]; assumption)) only [en_40, wp_ireturn rk_40, pg_40_0, pg_40_54, cw_139, wp_iload, wp_aload, wp_istore, wp_astore, wp_iinc, wp_iconst, wp_dup, wp_dup2, wp_pop, wp_iadd, wp_isub, wp_imul, wp_idiv, wp_irem, wp_ineg, wp_iand, wp_ior, wp_ixor, wp_ishl, wp_ishr, wp_getI, wp_putI, wp_getR, wp_goto, wp_goto_w, wq_if_eq, wq_if_ne, wq_if_lt, wq_if_ge, wq_if_gt, wq_if_le, wq_icmp_eq, wq_icmp_ne, wq_icmp_lt, wq_icmp_ge, wq_icmp_gt, wq_icmp_le, wp_max, wp_min, kI_inl, kR_some, kN_inl, kO_some, KT_none, KT_some, List.length_cons, List.length_nil, Nat.reduceAdd, Nat.reduceLT, Nat.reduceLeDiff, Nat.reduceMod, Nat.reduceDiv, true_and, and_true, Int.reduceLE, Int.reduceNeg, Int.reduceLT, Int.cast_ofNat_Int, Nat.zero_le, zI, Int.reduceAdd, Int.reduceSub, Int.reduceMul, not_true_eq_false, not_false_eq_true, false_implies, true_implies, i01_0, i01_1, ite_not, ↓reduceIte, zget_0, zget_1, zget_2, zget_3, zget_4, zget_5, zget_6, zget_7, zget_8, zget_9, zget_10, zset_0, zset_1, zset_2, zset_3, zset_4, zset_5, zset_6, zset_7, zset_8, zset_9, zset_10, k0, r0, r1, r2, r3, r4, wp_iaload k1, wp_iaload k2, wp_iaload k3, wp_iaload k4, wp_iaload k5, wp_iastore k1, wp_iastore k2, wp_iastore k3, wp_iastore k4, wp_iastore k5, lp, lyf, hN, ha, hz, h, if_false, show ¬ 27 ≤ i by omega, c_roundUp, zu_setc, setc_ne, setc_at, ups_at, ih, setc_setc]
      repeat (refine (and_iff_right (by omega)).trans ?_)
      exact Iff.rfl
theorem c_lay (hs : zSh s) (hb : SBd (gsh im s)) : CallP (d + 1) 40 [.inr (some s)] im Q ↔ Q (some (.inl (layS (gsh im s)).1)) (setc im (s + 5) (layS (gsh im s)).2) := by
  have hl := l_lay (d := d) hs (N := im s 5) hb 27 0 0 im (by omega) (by omega) (by omega) rfl rfl rfl
  simp (disch := omega) only [en_40, wp_ireturn rk_40, pg_40_0, pg_40_54, cw_139, wp_iload, wp_aload, wp_istore, wp_astore, wp_iinc, wp_iconst, wp_dup, wp_dup2, wp_pop, wp_iadd, wp_isub, wp_imul, wp_idiv, wp_irem, wp_ineg, wp_iand, wp_ior, wp_ixor, wp_ishl, wp_ishr, wp_getI, wp_putI, wp_getR, wp_goto, wp_goto_w, wq_if_eq, wq_if_ne, wq_if_lt, wq_if_ge, wq_if_gt, wq_if_le, wq_icmp_eq, wq_icmp_ne, wq_icmp_lt, wq_icmp_ge, wq_icmp_gt, wq_icmp_le, wp_max, wp_min, kI_inl, kR_some, kN_inl, kO_some, KT_none, KT_some, List.length_cons, List.length_nil, Nat.reduceAdd, Nat.reduceLT, Nat.reduceLeDiff, Nat.reduceMod, Nat.reduceDiv, true_and, and_true, Int.reduceLE, Int.reduceNeg, Int.reduceLT, Int.cast_ofNat_Int, Nat.zero_le, zI, Int.reduceAdd, Int.reduceSub, Int.reduceMul, not_true_eq_false, not_false_eq_true, false_implies, true_implies, i01_0, i01_1, ite_not, ↓reduceIte, zget_0, zget_1, zget_2, zget_3, zget_4, zget_5, zget_6, zget_7, zget_8, zget_9, zget_10, zset_0, zset_1, zset_2, zset_3, zset_4, zset_5, zset_6, zset_7, zset_8, zset_9, zset_10, hl, layS]
  simp only [Int.sub_zero]
  rfl
def totf (sz : Int → Int) (i e : Int) : Int := e + sz i
def totS (z : zSS) : Int := lp (totf z.2.2.2.1) (min z.2.2.2.2.2 27).toNat 0 0
theorem l_tot (hs : zSh s) {N : Int} (hb : ∀ i : Int, 0 ≤ i → i < 27 → i < N → 0 ≤ im (s + 4) i ∧ im (s + 4) i ≤ 33554432) (hN : im s 5 = N) : ∀ (n : Nat) (i e : Int), 0 ≤ i → i + n = 27 → 0 ≤ e ∧ e ≤ i * 33554432 → ∀ Q, wp none (d + 1) 41 (zpg 41 4) [.inr (some s), .inl e, .inl i] [] im Q ↔ Q (some (.inl (lp (totf (im (s + 4))) (min N 27 - i).toNat i e))) im
  | 0, i, e, h0, h1, he, Q => by
    have k0 := (zSh_k hs).1
    have k1 := (zSh_k hs).2.1
    have k2 := (zSh_k hs).2.2.1
    have k3 := (zSh_k hs).2.2.2.1
    have k4 := (zSh_k hs).2.2.2.2.1
    have k5 := (zSh_k hs).2.2.2.2.2
    have r0 := (zSh_r0 _ hs).1
    have r1 := (zSh_r0 _ hs).2.1
    have r2 := (zSh_r0 _ hs).2.2.1
    have r3 := (zSh_r0 _ hs).2.2.2.1
    have r4 := (zSh_r0 _ hs).2.2.2.2
    have e0 : (min N 27 - i).toNat = 0 := by omega
    rw [pg_41_4, e0]
    simp (disch := omega) only [en_41, wp_ireturn rk_41, pg_41_0, pg_41_33, wp_iload, wp_aload, wp_istore, wp_astore, wp_iinc, wp_iconst, wp_dup, wp_dup2, wp_pop, wp_iadd, wp_isub, wp_imul, wp_idiv, wp_irem, wp_ineg, wp_iand, wp_ior, wp_ixor, wp_ishl, wp_ishr, wp_getI, wp_putI, wp_getR, wp_goto, wp_goto_w, wq_if_eq, wq_if_ne, wq_if_lt, wq_if_ge, wq_if_gt, wq_if_le, wq_icmp_eq, wq_icmp_ne, wq_icmp_lt, wq_icmp_ge, wq_icmp_gt, wq_icmp_le, wp_max, wp_min, kI_inl, kR_some, kN_inl, kO_some, KT_none, KT_some, List.length_cons, List.length_nil, Nat.reduceAdd, Nat.reduceLT, Nat.reduceLeDiff, Nat.reduceMod, Nat.reduceDiv, true_and, and_true, Int.reduceLE, Int.reduceNeg, Int.reduceLT, Int.cast_ofNat_Int, Nat.zero_le, zI, Int.reduceAdd, Int.reduceSub, Int.reduceMul, not_true_eq_false, not_false_eq_true, false_implies, true_implies, i01_0, i01_1, ite_not, ↓reduceIte, zget_0, zget_1, zget_2, zget_3, zget_4, zget_5, zget_6, zget_7, zget_8, zget_9, zget_10, zset_0, zset_1, zset_2, zset_3, zset_4, zset_5, zset_6, zset_7, zset_8, zset_9, zset_10, k0, r0, r1, r2, r3, r4, wp_iaload k1, wp_iaload k2, wp_iaload k3, wp_iaload k4, wp_iaload k5, wp_iastore k1, wp_iastore k2, wp_iastore k3, wp_iastore k4, wp_iastore k5, lp, hN, show 27 ≤ i by omega, if_true]
    clear k0 k1 k2 k3 k4 k5 r0 r1 r2 r3 r4
    grind
  | n + 1, i, e, h0, h1, he, Q => by
    have k0 := (zSh_k hs).1
    have k1 := (zSh_k hs).2.1
    have k2 := (zSh_k hs).2.2.1
    have k3 := (zSh_k hs).2.2.2.1
    have k4 := (zSh_k hs).2.2.2.2.1
    have k5 := (zSh_k hs).2.2.2.2.2
    have r0 := (zSh_r0 _ hs).1
    have r1 := (zSh_r0 _ hs).2.1
    have r2 := (zSh_r0 _ hs).2.2.1
    have r3 := (zSh_r0 _ hs).2.2.2.1
    have r4 := (zSh_r0 _ hs).2.2.2.2
    have ih := l_tot hs hb hN n (i + 1)
    have b4 : (i + 1) * 33554432 = i * 33554432 + 33554432 := by omega
    rw [pg_41_4]
    by_cases h : N ≤ i
    · have e0 : (min N 27 - i).toNat = 0 := by omega
      rw [e0]
      simp (disch := omega) only [en_41, wp_ireturn rk_41, pg_41_0, pg_41_33, wp_iload, wp_aload, wp_istore, wp_astore, wp_iinc, wp_iconst, wp_dup, wp_dup2, wp_pop, wp_iadd, wp_isub, wp_imul, wp_idiv, wp_irem, wp_ineg, wp_iand, wp_ior, wp_ixor, wp_ishl, wp_ishr, wp_getI, wp_putI, wp_getR, wp_goto, wp_goto_w, wq_if_eq, wq_if_ne, wq_if_lt, wq_if_ge, wq_if_gt, wq_if_le, wq_icmp_eq, wq_icmp_ne, wq_icmp_lt, wq_icmp_ge, wq_icmp_gt, wq_icmp_le, wp_max, wp_min, kI_inl, kR_some, kN_inl, kO_some, KT_none, KT_some, List.length_cons, List.length_nil, Nat.reduceAdd, Nat.reduceLT, Nat.reduceLeDiff, Nat.reduceMod, Nat.reduceDiv, true_and, and_true, Int.reduceLE, Int.reduceNeg, Int.reduceLT, Int.cast_ofNat_Int, Nat.zero_le, zI, Int.reduceAdd, Int.reduceSub, Int.reduceMul, not_true_eq_false, not_false_eq_true, false_implies, true_implies, i01_0, i01_1, ite_not, ↓reduceIte, zget_0, zget_1, zget_2, zget_3, zget_4, zget_5, zget_6, zget_7, zget_8, zget_9, zget_10, zset_0, zset_1, zset_2, zset_3, zset_4, zset_5, zset_6, zset_7, zset_8, zset_9, zset_10, k0, r0, r1, r2, r3, r4, wp_iaload k1, wp_iaload k2, wp_iaload k3, wp_iaload k4, wp_iaload k5, wp_iastore k1, wp_iastore k2, wp_iastore k3, wp_iastore k4, wp_iastore k5, lp, hN, h, if_true]
    · have e0 : (min N 27 - i).toNat = (min N 27 - (i + 1)).toNat + 1 := by omega
      have b2 := hb i h0 (by omega) (by omega)
      rw [e0]
      simp (disch := omega) only [en_41, wp_ireturn rk_41, pg_41_0, pg_41_33, wp_iload, wp_aload, wp_istore, wp_astore, wp_iinc, wp_iconst, wp_dup, wp_dup2, wp_pop, wp_iadd, wp_isub, wp_imul, wp_idiv, wp_irem, wp_ineg, wp_iand, wp_ior, wp_ixor, wp_ishl, wp_ishr, wp_getI, wp_putI, wp_getR, wp_goto, wp_goto_w, wq_if_eq, wq_if_ne, wq_if_lt, wq_if_ge, wq_if_gt, wq_if_le, wq_icmp_eq, wq_icmp_ne, wq_icmp_lt, wq_icmp_ge, wq_icmp_gt, wq_icmp_le, wp_max, wp_min, kI_inl, kR_some, kN_inl, kO_some, KT_none, KT_some, List.length_cons, List.length_nil, Nat.reduceAdd, Nat.reduceLT, Nat.reduceLeDiff, Nat.reduceMod, Nat.reduceDiv, true_and, and_true, Int.reduceLE, Int.reduceNeg, Int.reduceLT, Int.cast_ofNat_Int, Nat.zero_le, zI, Int.reduceAdd, Int.reduceSub, Int.reduceMul, not_true_eq_false, not_false_eq_true, false_implies, true_implies, i01_0, i01_1, ite_not, ↓reduceIte, zget_0, zget_1, zget_2, zget_3, zget_4, zget_5, zget_6, zget_7, zget_8, zget_9, zget_10, zset_0, zset_1, zset_2, zset_3, zset_4, zset_5, zset_6, zset_7, zset_8, zset_9, zset_10, k0, r0, r1, r2, r3, r4, wp_iaload k1, wp_iaload k2, wp_iaload k3, wp_iaload k4, wp_iaload k5, wp_iastore k1, wp_iastore k2, wp_iastore k3, wp_iastore k4, wp_iastore k5, lp, totf, hN, h, if_false, show ¬ 27 ≤ i by omega, ih]
      repeat (refine (and_iff_right (by omega)).trans ?_)
      exact Iff.rfl
theorem c_total (hs : zSh s) (hb : ∀ i : Int, 0 ≤ i → i < 27 → i < im s 5 → 0 ≤ im (s + 4) i ∧ im (s + 4) i ≤ 33554432) : CallP (d + 1) 41 [.inr (some s)] im Q ↔ Q (some (.inl (totS (gsh im s)))) im := by
  have hl := l_tot (d := d) hs hb rfl 27 0 0 (by omega) (by omega) (by omega)
  simp (disch := omega) only [en_41, wp_ireturn rk_41, pg_41_0, pg_41_33, wp_iload, wp_aload, wp_istore, wp_astore, wp_iinc, wp_iconst, wp_dup, wp_dup2, wp_pop, wp_iadd, wp_isub, wp_imul, wp_idiv, wp_irem, wp_ineg, wp_iand, wp_ior, wp_ixor, wp_ishl, wp_ishr, wp_getI, wp_putI, wp_getR, wp_goto, wp_goto_w, wq_if_eq, wq_if_ne, wq_if_lt, wq_if_ge, wq_if_gt, wq_if_le, wq_icmp_eq, wq_icmp_ne, wq_icmp_lt, wq_icmp_ge, wq_icmp_gt, wq_icmp_le, wp_max, wp_min, kI_inl, kR_some, kN_inl, kO_some, KT_none, KT_some, List.length_cons, List.length_nil, Nat.reduceAdd, Nat.reduceLT, Nat.reduceLeDiff, Nat.reduceMod, Nat.reduceDiv, true_and, and_true, Int.reduceLE, Int.reduceNeg, Int.reduceLT, Int.cast_ofNat_Int, Nat.zero_le, zI, Int.reduceAdd, Int.reduceSub, Int.reduceMul, not_true_eq_false, not_false_eq_true, false_implies, true_implies, i01_0, i01_1, ite_not, ↓reduceIte, zget_0, zget_1, zget_2, zget_3, zget_4, zget_5, zget_6, zget_7, zget_8, zget_9, zget_10, zset_0, zset_1, zset_2, zset_3, zset_4, zset_5, zset_6, zset_7, zset_8, zset_9, zset_10, hl, totS]
  simp only [Int.sub_zero]
  rfl
def gaf' (al : Int → Int) (i e : Int) : Int := max e (al i)
def galS (z : zSS) : Int := lp (gaf' z.2.2.1) (min z.2.2.2.2.2 27).toNat 0 0
theorem l_gal (hs : zSh s) {N : Int} (hN : im s 5 = N) : ∀ (n : Nat) (i e : Int), 0 ≤ i → i + n = 27 → ∀ Q, wp none (d + 1) 42 (zpg 42 4) [.inr (some s), .inl e, .inl i] [] im Q ↔ Q (some (.inl (lp (gaf' (im (s + 3))) (min N 27 - i).toNat i e))) im
  | 0, i, e, h0, h1, Q => by
    have k0 := (zSh_k hs).1
    have k1 := (zSh_k hs).2.1
    have k2 := (zSh_k hs).2.2.1
    have k3 := (zSh_k hs).2.2.2.1
    have k4 := (zSh_k hs).2.2.2.2.1
    have k5 := (zSh_k hs).2.2.2.2.2
    have r0 := (zSh_r0 _ hs).1
    have r1 := (zSh_r0 _ hs).2.1
    have r2 := (zSh_r0 _ hs).2.2.1
    have r3 := (zSh_r0 _ hs).2.2.2.1
    have r4 := (zSh_r0 _ hs).2.2.2.2
    have e0 : (min N 27 - i).toNat = 0 := by omega
    rw [pg_42_4, e0]
    simp (disch := omega) only [en_42, wp_ireturn rk_42, pg_42_0, pg_42_35, wp_iload, wp_aload, wp_istore, wp_astore, wp_iinc, wp_iconst, wp_dup, wp_dup2, wp_pop, wp_iadd, wp_isub, wp_imul, wp_idiv, wp_irem, wp_ineg, wp_iand, wp_ior, wp_ixor, wp_ishl, wp_ishr, wp_getI, wp_putI, wp_getR, wp_goto, wp_goto_w, wq_if_eq, wq_if_ne, wq_if_lt, wq_if_ge, wq_if_gt, wq_if_le, wq_icmp_eq, wq_icmp_ne, wq_icmp_lt, wq_icmp_ge, wq_icmp_gt, wq_icmp_le, wp_max, wp_min, kI_inl, kR_some, kN_inl, kO_some, KT_none, KT_some, List.length_cons, List.length_nil, Nat.reduceAdd, Nat.reduceLT, Nat.reduceLeDiff, Nat.reduceMod, Nat.reduceDiv, true_and, and_true, Int.reduceLE, Int.reduceNeg, Int.reduceLT, Int.cast_ofNat_Int, Nat.zero_le, zI, Int.reduceAdd, Int.reduceSub, Int.reduceMul, not_true_eq_false, not_false_eq_true, false_implies, true_implies, i01_0, i01_1, ite_not, ↓reduceIte, zget_0, zget_1, zget_2, zget_3, zget_4, zget_5, zget_6, zget_7, zget_8, zget_9, zget_10, zset_0, zset_1, zset_2, zset_3, zset_4, zset_5, zset_6, zset_7, zset_8, zset_9, zset_10, k0, r0, r1, r2, r3, r4, wp_iaload k1, wp_iaload k2, wp_iaload k3, wp_iaload k4, wp_iaload k5, wp_iastore k1, wp_iastore k2, wp_iastore k3, wp_iastore k4, wp_iastore k5, lp, hN, show 27 ≤ i by omega, if_true]
    clear k0 k1 k2 k3 k4 k5 r0 r1 r2 r3 r4
    grind
  | n + 1, i, e, h0, h1, Q => by
    have k0 := (zSh_k hs).1
    have k1 := (zSh_k hs).2.1
    have k2 := (zSh_k hs).2.2.1
    have k3 := (zSh_k hs).2.2.2.1
    have k4 := (zSh_k hs).2.2.2.2.1
    have k5 := (zSh_k hs).2.2.2.2.2
    have r0 := (zSh_r0 _ hs).1
    have r1 := (zSh_r0 _ hs).2.1
    have r2 := (zSh_r0 _ hs).2.2.1
    have r3 := (zSh_r0 _ hs).2.2.2.1
    have r4 := (zSh_r0 _ hs).2.2.2.2
    have ih := l_gal hs hN n (i + 1)
    rw [pg_42_4]
    by_cases h : N ≤ i
    · have e0 : (min N 27 - i).toNat = 0 := by omega
      rw [e0]
      simp (disch := omega) only [en_42, wp_ireturn rk_42, pg_42_0, pg_42_35, wp_iload, wp_aload, wp_istore, wp_astore, wp_iinc, wp_iconst, wp_dup, wp_dup2, wp_pop, wp_iadd, wp_isub, wp_imul, wp_idiv, wp_irem, wp_ineg, wp_iand, wp_ior, wp_ixor, wp_ishl, wp_ishr, wp_getI, wp_putI, wp_getR, wp_goto, wp_goto_w, wq_if_eq, wq_if_ne, wq_if_lt, wq_if_ge, wq_if_gt, wq_if_le, wq_icmp_eq, wq_icmp_ne, wq_icmp_lt, wq_icmp_ge, wq_icmp_gt, wq_icmp_le, wp_max, wp_min, kI_inl, kR_some, kN_inl, kO_some, KT_none, KT_some, List.length_cons, List.length_nil, Nat.reduceAdd, Nat.reduceLT, Nat.reduceLeDiff, Nat.reduceMod, Nat.reduceDiv, true_and, and_true, Int.reduceLE, Int.reduceNeg, Int.reduceLT, Int.cast_ofNat_Int, Nat.zero_le, zI, Int.reduceAdd, Int.reduceSub, Int.reduceMul, not_true_eq_false, not_false_eq_true, false_implies, true_implies, i01_0, i01_1, ite_not, ↓reduceIte, zget_0, zget_1, zget_2, zget_3, zget_4, zget_5, zget_6, zget_7, zget_8, zget_9, zget_10, zset_0, zset_1, zset_2, zset_3, zset_4, zset_5, zset_6, zset_7, zset_8, zset_9, zset_10, k0, r0, r1, r2, r3, r4, wp_iaload k1, wp_iaload k2, wp_iaload k3, wp_iaload k4, wp_iaload k5, wp_iastore k1, wp_iastore k2, wp_iastore k3, wp_iastore k4, wp_iastore k5, lp, hN, h, if_true]
    · have e0 : (min N 27 - i).toNat = (min N 27 - (i + 1)).toNat + 1 := by omega
      rw [e0]
      simp (disch := omega) only [en_42, wp_ireturn rk_42, pg_42_0, pg_42_35, wp_iload, wp_aload, wp_istore, wp_astore, wp_iinc, wp_iconst, wp_dup, wp_dup2, wp_pop, wp_iadd, wp_isub, wp_imul, wp_idiv, wp_irem, wp_ineg, wp_iand, wp_ior, wp_ixor, wp_ishl, wp_ishr, wp_getI, wp_putI, wp_getR, wp_goto, wp_goto_w, wq_if_eq, wq_if_ne, wq_if_lt, wq_if_ge, wq_if_gt, wq_if_le, wq_icmp_eq, wq_icmp_ne, wq_icmp_lt, wq_icmp_ge, wq_icmp_gt, wq_icmp_le, wp_max, wp_min, kI_inl, kR_some, kN_inl, kO_some, KT_none, KT_some, List.length_cons, List.length_nil, Nat.reduceAdd, Nat.reduceLT, Nat.reduceLeDiff, Nat.reduceMod, Nat.reduceDiv, true_and, and_true, Int.reduceLE, Int.reduceNeg, Int.reduceLT, Int.cast_ofNat_Int, Nat.zero_le, zI, Int.reduceAdd, Int.reduceSub, Int.reduceMul, not_true_eq_false, not_false_eq_true, false_implies, true_implies, i01_0, i01_1, ite_not, ↓reduceIte, zget_0, zget_1, zget_2, zget_3, zget_4, zget_5, zget_6, zget_7, zget_8, zget_9, zget_10, zset_0, zset_1, zset_2, zset_3, zset_4, zset_5, zset_6, zset_7, zset_8, zset_9, zset_10, k0, r0, r1, r2, r3, r4, wp_iaload k1, wp_iaload k2, wp_iaload k3, wp_iaload k4, wp_iaload k5, wp_iastore k1, wp_iastore k2, wp_iastore k3, wp_iastore k4, wp_iastore k5, lp, gaf', hN, h, if_false, show ¬ 27 ≤ i by omega, ih]
      repeat (refine (and_iff_right (by omega)).trans ?_)
      exact Iff.rfl
theorem c_greatestAlign (hs : zSh s) : CallP (d + 1) 42 [.inr (some s)] im Q ↔ Q (some (.inl (galS (gsh im s)))) im := by
  have hl := l_gal (d := d) hs (im := im) rfl 27 0 0 (by omega) (by omega)
  simp (disch := omega) only [en_42, wp_ireturn rk_42, pg_42_0, pg_42_35, wp_iload, wp_aload, wp_istore, wp_astore, wp_iinc, wp_iconst, wp_dup, wp_dup2, wp_pop, wp_iadd, wp_isub, wp_imul, wp_idiv, wp_irem, wp_ineg, wp_iand, wp_ior, wp_ixor, wp_ishl, wp_ishr, wp_getI, wp_putI, wp_getR, wp_goto, wp_goto_w, wq_if_eq, wq_if_ne, wq_if_lt, wq_if_ge, wq_if_gt, wq_if_le, wq_icmp_eq, wq_icmp_ne, wq_icmp_lt, wq_icmp_ge, wq_icmp_gt, wq_icmp_le, wp_max, wp_min, kI_inl, kR_some, kN_inl, kO_some, KT_none, KT_some, List.length_cons, List.length_nil, Nat.reduceAdd, Nat.reduceLT, Nat.reduceLeDiff, Nat.reduceMod, Nat.reduceDiv, true_and, and_true, Int.reduceLE, Int.reduceNeg, Int.reduceLT, Int.cast_ofNat_Int, Nat.zero_le, zI, Int.reduceAdd, Int.reduceSub, Int.reduceMul, not_true_eq_false, not_false_eq_true, false_implies, true_implies, i01_0, i01_1, ite_not, ↓reduceIte, zget_0, zget_1, zget_2, zget_3, zget_4, zget_5, zget_6, zget_7, zget_8, zget_9, zget_10, zset_0, zset_1, zset_2, zset_3, zset_4, zset_5, zset_6, zset_7, zset_8, zset_9, zset_10, hl, galS]
  simp only [Int.sub_zero]
  rfl
end SL
