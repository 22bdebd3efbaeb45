/-! THE CLASS'S POWER-UP: the whole -/
section PR
variable {d s t u o : Nat} {im : zM} {Q : Option zV → zM → Prop} {a b v dv kd sl i j k f : Int}
noncomputable def lyi (w : Int → Int) (n k : Int) (i : Int) (y : (Int → Int) × zSS) : (Int → Int) × zSS := if gt y.1 (wka w n i) 0 = 2 ∧ gt y.1 (wka w n i) 3 = 1 then labS y.1 w n (wka w n i) k y.2 else y
def LyOK (w : Int → Int) (n k : Int) : Nat → Int → (Int → Int) × zSS → Prop
  | 0, _, _ => True
  | m + 1, i, y => (TB y.1 ∧ TW y.1 k ∧ (gt y.1 (wka w n i) 0 = 2 ∧ gt y.1 (wka w n i) 3 = 1 → LBH (ndS y.1 w n (wka w n i) k y.2).2 (begf y.1 (wka w n i) k))) ∧ LyOK w n k m (i + 1) (lyi w n k i y)
theorem l_runI (ht : zT t) {w : Int → Int} {n : Int} {x4 : zV} (hW : im (t + 3) = w) (hN : im t 4 = n) (hn : n ≤ 20) (hk : 0 ≤ k ∧ k < 2) :
    ∀ (m : Nat) (i : Int) (y : (Int → Int) × zSS), 0 ≤ i → i + m = (n.toNat : Nat) → LyOK w n k m i y → ∀ Q, wp none (d + 6) 19 (zpg 19 109) [.inr (some 131), .inr (some t), .inl k, .inl i, x4] [] (mt2 im t y.1 y.2) Q ↔ wp none (d + 6) 19 (zpg 19 146) [.inr (some 131), .inr (some t), .inl k, .inl (n.toNat : Nat), x4] [] (mt2 im t (lp (lyi w n k) m i y).1 (lp (lyi w n k) m i y).2) Q
  | 0, i, y, h0, h1, hok, Q => by
    have k0 := (zT_k ht).1
    have ap := zT_lt ht
    have e4 : ∀ c z, mt2 im t c z t 4 = n := fun c z => by rw [mt2_ne ht _ _ (by omega) (by omega), hN]
    have ei : i = ((n.toNat : Nat) : Int) := by omega
    rw [pg_19_109]
    simp (disch := omega) only [wp_iload, wp_aload, wq_icmp_ge, wp_getI, wp_iload, wp_aload, wp_istore, wp_astore, wp_iinc, wp_iconst, wp_dup, wp_dup2, wp_pop, wp_iadd, wp_isub, wp_imul, wp_idiv, wp_irem, wp_ineg, wp_iand, wp_ior, wp_ixor, wp_ishl, wp_ishr, wp_getI, wp_putI, wp_getR, wp_goto, wp_goto_w, wq_if_eq, wq_if_ne, wq_if_lt, wq_if_ge, wq_if_gt, wq_if_le, wq_icmp_eq, wq_icmp_ne, wq_icmp_lt, wq_icmp_ge, wq_icmp_gt, wq_icmp_le, wp_max, wp_min, kI_inl, kR_some, kN_inl, kO_some, KT_none, KT_some, List.length_cons, List.length_nil, Nat.reduceAdd, Nat.reduceLT, Nat.reduceLeDiff, Nat.reduceMod, Nat.reduceDiv, true_and, and_true, Int.reduceLE, Int.reduceNeg, Int.reduceLT, Int.cast_ofNat_Int, Nat.zero_le, zI, Int.reduceAdd, Int.reduceSub, Int.reduceMul, not_true_eq_false, not_false_eq_true, false_implies, true_implies, i01_0, i01_1, ite_not, ↓reduceIte, zget_0, zget_1, zget_2, zget_3, zget_4, zget_5, zget_6, zget_7, zget_8, zget_9, zget_10, zset_0, zset_1, zset_2, zset_3, zset_4, zset_5, zset_6, zset_7, zset_8, zset_9, zset_10, k0, e4, show n ≤ i by omega, if_true, lp]
    rw [ei]
  | m + 1, i, y, h0, h1, hok, Q => by
    have k0 := (zT_k ht).1
    have ap := zT_lt ht
    have e4 : ∀ c z, mt2 im t c z t 4 = n := fun c z => by rw [mt2_ne ht _ _ (by omega) (by omega), hN]
    have e3 : ∀ c z, mt2 im t c z (t + 3) = w := fun c z => by rw [mt2_ne ht _ _ (by omega) (by omega), hW]
    have ih := l_runI ht (x4 := x4) hW hN hn hk m (i + 1) (lyi w n k i y) (by omega) (by omega) hok.2 Q
    rw [pg_19_109]
    by_cases hc : gt y.1 (wka w n i) 0 = 2 ∧ gt y.1 (wka w n i) 3 = 1
    · rw [show lyi w n k i y = labS y.1 w n (wka w n i) k y.2 from if_pos hc] at ih
      simp (disch := omega) only [pg_19_140, wp_ireturn, cw_58, cw_22, cw_25, wp_iload, wp_aload, wp_istore, wp_astore, wp_iinc, wp_iconst, wp_dup, wp_dup2, wp_pop, wp_iadd, wp_isub, wp_imul, wp_idiv, wp_irem, wp_ineg, wp_iand, wp_ior, wp_ixor, wp_ishl, wp_ishr, wp_getI, wp_putI, wp_getR, wp_goto, wp_goto_w, wq_if_eq, wq_if_ne, wq_if_lt, wq_if_ge, wq_if_gt, wq_if_le, wq_icmp_eq, wq_icmp_ne, wq_icmp_lt, wq_icmp_ge, wq_icmp_gt, wq_icmp_le, wp_max, wp_min, kI_inl, kR_some, kN_inl, kO_some, KT_none, KT_some, List.length_cons, List.length_nil, Nat.reduceAdd, Nat.reduceLT, Nat.reduceLeDiff, Nat.reduceMod, Nat.reduceDiv, true_and, and_true, Int.reduceLE, Int.reduceNeg, Int.reduceLT, Int.cast_ofNat_Int, Nat.zero_le, zI, Int.reduceAdd, Int.reduceSub, Int.reduceMul, not_true_eq_false, not_false_eq_true, false_implies, true_implies, i01_0, i01_1, ite_not, ↓reduceIte, zget_0, zget_1, zget_2, zget_3, zget_4, zget_5, zget_6, zget_7, zget_8, zget_9, zget_10, zset_0, zset_1, zset_2, zset_3, zset_4, zset_5, zset_6, zset_7, zset_8, zset_9, zset_10, k0, kd_131, e4, e3, show ¬ n ≤ i by omega, if_false, lp, c_walkAt ht, c_isOnBridge ht, mt2_c ht, hc, and_self, if_true, c_layBus ht hW hN hok.1.1 hok.1.2.1 hk hn (hok.1.2.2 hc)]
      simp only [show ¬ (1 : Int) = 0 by omega, if_false]
      rw [show lyi w n k i y = labS y.1 w n (wka w n i) k y.2 from if_pos hc]
      refine (and_iff_right (by omega)).trans ?_
      exact ih
    · rw [show lyi w n k i y = y from if_neg hc] at ih
      simp (disch := omega) only [pg_19_140, wp_ireturn, cw_58, cw_22, cw_25, wp_iload, wp_aload, wp_istore, wp_astore, wp_iinc, wp_iconst, wp_dup, wp_dup2, wp_pop, wp_iadd, wp_isub, wp_imul, wp_idiv, wp_irem, wp_ineg, wp_iand, wp_ior, wp_ixor, wp_ishl, wp_ishr, wp_getI, wp_putI, wp_getR, wp_goto, wp_goto_w, wq_if_eq, wq_if_ne, wq_if_lt, wq_if_ge, wq_if_gt, wq_if_le, wq_icmp_eq, wq_icmp_ne, wq_icmp_lt, wq_icmp_ge, wq_icmp_gt, wq_icmp_le, wp_max, wp_min, kI_inl, kR_some, kN_inl, kO_some, KT_none, KT_some, List.length_cons, List.length_nil, Nat.reduceAdd, Nat.reduceLT, Nat.reduceLeDiff, Nat.reduceMod, Nat.reduceDiv, true_and, and_true, Int.reduceLE, Int.reduceNeg, Int.reduceLT, Int.cast_ofNat_Int, Nat.zero_le, zI, Int.reduceAdd, Int.reduceSub, Int.reduceMul, not_true_eq_false, not_false_eq_true, false_implies, true_implies, i01_0, i01_1, ite_not, ↓reduceIte, zget_0, zget_1, zget_2, zget_3, zget_4, zget_5, zget_6, zget_7, zget_8, zget_9, zget_10, zset_0, zset_1, zset_2, zset_3, zset_4, zset_5, zset_6, zset_7, zset_8, zset_9, zset_10, k0, kd_131, e4, e3, show ¬ n ≤ i by omega, if_false, lp, c_walkAt ht, c_isOnBridge ht, mt2_c ht, hc]
      rw [show lyi w n k i y = y from if_neg hc]
      refine (and_iff_right (by omega)).trans ?_
      exact ih
end PR
