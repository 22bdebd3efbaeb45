/-! THE CLASS'S TREE: removing -/
/-- a loop that counts down: the last is done first -/
def lpd {S : Type} (f : Int → S → S) : Nat → S → S
  | 0, s => s
  | n + 1, s => lpd f n (f (n : Int) s)
section TY
variable {d t u : Nat} {im : zM} {Q : Option zV → zM → Prop} {a b v dv kd sl ty oth : Int}
/-- a device's row is cleared from cell k on -/
def zrw (c : Int → Int) (e k : Int) : Int → Int := fun j => if 0 ≤ e ∧ e < 20 ∧ e * 24 + k ≤ j ∧ j < e * 24 + 24 then 0 else c j
theorem l_zero (ht : zT t) {x1 x2 : zV} {i : Int} (hi : -1 ≤ i ∧ i < 2147483647) : ∀ (n : Nat) (k : Int) (im : zM), 0 ≤ k → k + n = 24 → ∀ Q, wp none (d + 1) 72 (zpg 72 39) [.inr (some t), x1, x2, .inl i, .inl oth, .inl k] [] im Q ↔ wp none (d + 1) 72 (zpg 72 9) [.inr (some t), x1, x2, .inl (i - 1), .inl oth, .inl 24] [] (setc im (t + 1) (zrw (im (t + 1)) oth k)) Q
  | 0, k, im, h0, h1, Q => by
    have k0 := (zT_k ht).1
    have k1 := (zT_k ht).2.1
    have k2 := (zT_k ht).2.2.1
    have k3 := (zT_k ht).2.2.2.1
    have k4 := (zT_k ht).2.2.2.2
    have r0 := (zT_r0 _ ht).1
    have r1 := (zT_r0 _ ht).2.1
    have r2 := (zT_r0 _ ht).2.2.1
    have r3 := (zT_r0 _ ht).2.2.2
    rw [pg_72_39]
    have e : zrw (im (t + 1)) oth k = im (t + 1) := by
      funext j
      unfold zrw
      grind
    have ek : k = 24 := by omega
    subst ek
    simp only [en_72, wp_ireturn rk_72, pg_72_0, pg_72_36, pg_72_61, pg_72_67, pg_72_115, pg_72_121, cw_50, cw_51, cw_58, cw_67, wp_iload, wp_aload, wp_istore, wp_astore, wp_iinc, wp_iconst, wp_dup, wp_dup2, wp_pop, wp_iadd, wp_isub, wp_imul, wp_idiv, wp_irem, wp_ineg, wp_iand, wp_ior, wp_ixor, wp_ishl, wp_ishr, wp_getI, wp_putI, wp_getR, wp_goto, wp_goto_w, wq_if_eq, wq_if_ne, wq_if_lt, wq_if_ge, wq_if_gt, wq_if_le, wq_icmp_eq, wq_icmp_ne, wq_icmp_lt, wq_icmp_ge, wq_icmp_gt, wq_icmp_le, wp_max, wp_min, kI_inl, kR_some, kN_inl, kO_some, KT_none, KT_some, List.length_cons, List.length_nil, Nat.reduceAdd, Nat.reduceLT, Nat.reduceLeDiff, Nat.reduceMod, Nat.reduceDiv, true_and, and_true, Int.reduceLE, Int.reduceNeg, Int.reduceLT, Int.cast_ofNat_Int, Nat.zero_le, zI, Int.reduceAdd, Int.reduceSub, Int.reduceMul, not_true_eq_false, not_false_eq_true, false_implies, true_implies, i01_0, i01_1, ite_not, ↓reduceIte, zget_0, zget_1, zget_2, zget_3, zget_4, zget_5, zget_6, zget_7, zget_8, zget_9, zget_10, zset_0, zset_1, zset_2, zset_3, zset_4, zset_5, zset_6, zset_7, zset_8, zset_9, zset_10, k0, r0, r1, r2, r3, wp_iaload k1, wp_iaload k2, wp_iaload k3, wp_iaload k4, wp_iastore k1, wp_iastore k2, wp_iastore k3, wp_iastore k4, e, setc_self, Int.add_neg_eq_sub]
    grind
  | n + 1, k, im, h0, h1, Q => by
    have k0 := (zT_k ht).1
    have k1 := (zT_k ht).2.1
    have k2 := (zT_k ht).2.2.1
    have k3 := (zT_k ht).2.2.2.1
    have k4 := (zT_k ht).2.2.2.2
    have r0 := (zT_r0 _ ht).1
    have r1 := (zT_r0 _ ht).2.1
    have r2 := (zT_r0 _ ht).2.2.1
    have r3 := (zT_r0 _ ht).2.2.2
    have ih := l_zero ht (x1 := x1) (x2 := x2) hi n (k + 1)
    rw [pg_72_39]
    have e : zrw (if 0 ≤ oth ∧ oth < 20 ∧ 0 ≤ k ∧ k < 24 then ups (im (t + 1)) (oth * 24 + k) 0 else im (t + 1)) oth (k + 1) = zrw (im (t + 1)) oth k := by
      funext j
      by_cases hv : 0 ≤ oth ∧ oth < 20 ∧ 0 ≤ k ∧ k < 24
      · rw [if_pos hv]
        simp only [zrw, ups]
        (repeat' split) <;> first | rfl | omega
      · rw [if_neg hv]
        simp only [zrw]
        (repeat' split) <;> first | rfl | omega
    by_cases hv : 0 ≤ oth ∧ oth < 20 ∧ 0 ≤ k ∧ k < 24
    · rw [if_pos hv] at e
      simp (disch := omega) only [en_72, wp_ireturn rk_72, pg_72_0, pg_72_36, pg_72_61, pg_72_67, pg_72_115, pg_72_121, cw_50, cw_51, cw_58, cw_67, wp_iload, wp_aload, wp_istore, wp_astore, wp_iinc, wp_iconst, wp_dup, wp_dup2, wp_pop, wp_iadd, wp_isub, wp_imul, wp_idiv, wp_irem, wp_ineg, wp_iand, wp_ior, wp_ixor, wp_ishl, wp_ishr, wp_getI, wp_putI, wp_getR, wp_goto, wp_goto_w, wq_if_eq, wq_if_ne, wq_if_lt, wq_if_ge, wq_if_gt, wq_if_le, wq_icmp_eq, wq_icmp_ne, wq_icmp_lt, wq_icmp_ge, wq_icmp_gt, wq_icmp_le, wp_max, wp_min, kI_inl, kR_some, kN_inl, kO_some, KT_none, KT_some, List.length_cons, List.length_nil, Nat.reduceAdd, Nat.reduceLT, Nat.reduceLeDiff, Nat.reduceMod, Nat.reduceDiv, true_and, and_true, Int.reduceLE, Int.reduceNeg, Int.reduceLT, Int.cast_ofNat_Int, Nat.zero_le, zI, Int.reduceAdd, Int.reduceSub, Int.reduceMul, not_true_eq_false, not_false_eq_true, false_implies, true_implies, i01_0, i01_1, ite_not, ↓reduceIte, zget_0, zget_1, zget_2, zget_3, zget_4, zget_5, zget_6, zget_7, zget_8, zget_9, zget_10, zset_0, zset_1, zset_2, zset_3, zset_4, zset_5, zset_6, zset_7, zset_8, zset_9, zset_10, k0, r0, r1, r2, r3, wp_iaload k1, wp_iaload k2, wp_iaload k3, wp_iaload k4, wp_iastore k1, wp_iastore k2, wp_iastore k3, wp_iastore k4, show ¬ (24 : Int) ≤ k by omega, c_set ht, hv, zu_setc, setc_at, setc_setc, ih, e, and_self]
      grind
    · rw [if_neg hv] at e
      simp (disch := omega) only [en_72, wp_ireturn rk_72, pg_72_0, pg_72_36, pg_72_61, pg_72_67, pg_72_115, pg_72_121, cw_50, cw_51, cw_58, cw_67, wp_iload, wp_aload, wp_istore, wp_astore, wp_iinc, wp_iconst, wp_dup, wp_dup2, wp_pop, wp_iadd, wp_isub, wp_imul, wp_idiv, wp_irem, wp_ineg, wp_iand, wp_ior, wp_ixor, wp_ishl, wp_ishr, wp_getI, wp_putI, wp_getR, wp_goto, wp_goto_w, wq_if_eq, wq_if_ne, wq_if_lt, wq_if_ge, wq_if_gt, wq_if_le, wq_icmp_eq, wq_icmp_ne, wq_icmp_lt, wq_icmp_ge, wq_icmp_gt, wq_icmp_le, wp_max, wp_min, kI_inl, kR_some, kN_inl, kO_some, KT_none, KT_some, List.length_cons, List.length_nil, Nat.reduceAdd, Nat.reduceLT, Nat.reduceLeDiff, Nat.reduceMod, Nat.reduceDiv, true_and, and_true, Int.reduceLE, Int.reduceNeg, Int.reduceLT, Int.cast_ofNat_Int, Nat.zero_le, zI, Int.reduceAdd, Int.reduceSub, Int.reduceMul, not_true_eq_false, not_false_eq_true, false_implies, true_implies, i01_0, i01_1, ite_not, ↓reduceIte, zget_0, zget_1, zget_2, zget_3, zget_4, zget_5, zget_6, zget_7, zget_8, zget_9, zget_10, zset_0, zset_1, zset_2, zset_3, zset_4, zset_5, zset_6, zset_7, zset_8, zset_9, zset_10, k0, r0, r1, r2, r3, wp_iaload k1, wp_iaload k2, wp_iaload k3, wp_iaload k4, wp_iastore k1, wp_iastore k2, wp_iastore k3, wp_iastore k4, show ¬ (24 : Int) ≤ k by omega, c_set ht, hv, zu_setc, setc_at, setc_setc, ih, e]
      grind
/-- one device of the walk, from its last on: its row is cleared if it is the one, or behind it -/
def rmf (w : Int → Int) (n dv : Int) (i : Int) (c : Int → Int) : Int → Int := if wka w n i = dv ∨ bhB c (wka w n i) dv = true then zrw c (wka w n i) 0 else c
/-- the walk without those that are no more there -/
def lff (c : Int → Int) (i : Int) (s : zWS) : zWS := if 0 < gt c (s.1 i) 0 then (ups s.1 s.2 (s.1 i), s.2 + 1) else s
theorem l_rm2 (ht : zT t) {x1 : zV} {B : Int} (hB : B ≤ 20) (hB0 : -1000 ≤ B) : ∀ (n : Nat) (i s : Int) (im : zM) (x4 : zV), 0 ≤ i → i + n = (B.toNat : Nat) → 0 ≤ s → s ≤ i → ∀ Q, wp none (d + 2) 72 (zpg 72 72) [.inr (some t), x1, .inl B, .inl s, .inl i, x4] [] im Q ↔ Q (some (.inl (B - (lp (lff (im (t + 1))) n i (im (t + 3), s)).2))) (stw im t (lp (lff (im (t + 1))) n i (im (t + 3), s)))
  | 0, i, s, im, x4, h0, h1, h2, h3, Q => by
    have k0 := (zT_k ht).1
    have k1 := (zT_k ht).2.1
    have k2 := (zT_k ht).2.2.1
    have k3 := (zT_k ht).2.2.2.1
    have k4 := (zT_k ht).2.2.2.2
    have r0 := (zT_r0 _ ht).1
    have r1 := (zT_r0 _ ht).2.1
    have r2 := (zT_r0 _ ht).2.2.1
    have r3 := (zT_r0 _ ht).2.2.2
    rw [pg_72_72]
    have e : setc im t (ups (im t) 4 s) = stw im t (im (t + 3), s) := by
      unfold stw
      dsimp only
      rw [setc_self]
    simp only [en_72, wp_ireturn rk_72, pg_72_0, pg_72_36, pg_72_61, pg_72_67, pg_72_115, pg_72_121, cw_50, cw_51, cw_58, cw_67, wp_iload, wp_aload, wp_istore, wp_astore, wp_iinc, wp_iconst, wp_dup, wp_dup2, wp_pop, wp_iadd, wp_isub, wp_imul, wp_idiv, wp_irem, wp_ineg, wp_iand, wp_ior, wp_ixor, wp_ishl, wp_ishr, wp_getI, wp_putI, wp_getR, wp_goto, wp_goto_w, wq_if_eq, wq_if_ne, wq_if_lt, wq_if_ge, wq_if_gt, wq_if_le, wq_icmp_eq, wq_icmp_ne, wq_icmp_lt, wq_icmp_ge, wq_icmp_gt, wq_icmp_le, wp_max, wp_min, kI_inl, kR_some, kN_inl, kO_some, KT_none, KT_some, List.length_cons, List.length_nil, Nat.reduceAdd, Nat.reduceLT, Nat.reduceLeDiff, Nat.reduceMod, Nat.reduceDiv, true_and, and_true, Int.reduceLE, Int.reduceNeg, Int.reduceLT, Int.cast_ofNat_Int, Nat.zero_le, zI, Int.reduceAdd, Int.reduceSub, Int.reduceMul, not_true_eq_false, not_false_eq_true, false_implies, true_implies, i01_0, i01_1, ite_not, ↓reduceIte, zget_0, zget_1, zget_2, zget_3, zget_4, zget_5, zget_6, zget_7, zget_8, zget_9, zget_10, zset_0, zset_1, zset_2, zset_3, zset_4, zset_5, zset_6, zset_7, zset_8, zset_9, zset_10, k0, r0, r1, r2, r3, wp_iaload k1, wp_iaload k2, wp_iaload k3, wp_iaload k4, wp_iastore k1, wp_iastore k2, wp_iastore k3, wp_iastore k4, show B ≤ i by omega, lp, zu_setc, e]
    grind
  | n + 1, i, s, im, x4, h0, h1, h2, h3, Q => by
    have k0 := (zT_k ht).1
    have k1 := (zT_k ht).2.1
    have k2 := (zT_k ht).2.2.1
    have k3 := (zT_k ht).2.2.2.1
    have k4 := (zT_k ht).2.2.2.2
    have r0 := (zT_r0 _ ht).1
    have r1 := (zT_r0 _ ht).2.1
    have r2 := (zT_r0 _ ht).2.2.1
    have r3 := (zT_r0 _ ht).2.2.2
    have ih := l_rm2 ht (x1 := x1) hB hB0 n (i + 1)
    rw [pg_72_72]
    have e : ∀ z : zWS, stw (setc im (t + 3) (ups (im (t + 3)) s (im (t + 3) i))) t z = stw im t z := by
      intro z
      unfold stw
      rw [setc_setc, setc_ne _ _ (show t ≠ t + 3 by omega)]
    simp (disch := omega) only [en_72, wp_ireturn rk_72, pg_72_0, pg_72_36, pg_72_61, pg_72_67, pg_72_115, pg_72_121, cw_50, cw_51, cw_58, cw_67, wp_iload, wp_aload, wp_istore, wp_astore, wp_iinc, wp_iconst, wp_dup, wp_dup2, wp_pop, wp_iadd, wp_isub, wp_imul, wp_idiv, wp_irem, wp_ineg, wp_iand, wp_ior, wp_ixor, wp_ishl, wp_ishr, wp_getI, wp_putI, wp_getR, wp_goto, wp_goto_w, wq_if_eq, wq_if_ne, wq_if_lt, wq_if_ge, wq_if_gt, wq_if_le, wq_icmp_eq, wq_icmp_ne, wq_icmp_lt, wq_icmp_ge, wq_icmp_gt, wq_icmp_le, wp_max, wp_min, kI_inl, kR_some, kN_inl, kO_some, KT_none, KT_some, List.length_cons, List.length_nil, Nat.reduceAdd, Nat.reduceLT, Nat.reduceLeDiff, Nat.reduceMod, Nat.reduceDiv, true_and, and_true, Int.reduceLE, Int.reduceNeg, Int.reduceLT, Int.cast_ofNat_Int, Nat.zero_le, zI, Int.reduceAdd, Int.reduceSub, Int.reduceMul, not_true_eq_false, not_false_eq_true, false_implies, true_implies, i01_0, i01_1, ite_not, ↓reduceIte, zget_0, zget_1, zget_2, zget_3, zget_4, zget_5, zget_6, zget_7, zget_8, zget_9, zget_10, zset_0, zset_1, zset_2, zset_3, zset_4, zset_5, zset_6, zset_7, zset_8, zset_9, zset_10, k0, r0, r1, r2, r3, wp_iaload k1, wp_iaload k2, wp_iaload k3, wp_iaload k4, wp_iastore k1, wp_iastore k2, wp_iastore k3, wp_iastore k4, show ¬ B ≤ i by omega, show ¬ 20 ≤ i by omega, c_isThere ht, zu_setc, ih, lp, setc_at, setc_ne, e]
    clear ih
    clear k0 k1 k2 k3 k4 r0 r1 r2 r3
    simp only [lff]
    grind (splits := 20)
theorem l_rm1 (ht : zT t) {B : Int} (hB : B ≤ 20) (hB0 : -1000 ≤ B) {w0 : Int → Int} {n0 : Int} : ∀ (k : Nat) (i : Int) (im : zM) (x2 x3 : zV), i = (k : Int) - 1 → k ≤ 20 → im (t + 3) = w0 → im t 4 = n0 → ∀ Q, wp none (d + 2) 72 (zpg 72 9) [.inr (some t), .inl dv, .inl B, .inl i, x2, x3] [] im Q ↔
      Q (some (.inl (B - (lp (lff (lpd (rmf w0 n0 dv) k (im (t + 1)))) B.toNat 0 (w0, 0)).2))) (stw (setc im (t + 1) (lpd (rmf w0 n0 dv) k (im (t + 1)))) t (lp (lff (lpd (rmf w0 n0 dv) k (im (t + 1)))) B.toNat 0 (w0, 0)))
  | 0, i, im, x2, x3, h0, h1, hw, hn, Q => by
    have k0 := (zT_k ht).1
    have k1 := (zT_k ht).2.1
    have k2 := (zT_k ht).2.2.1
    have k3 := (zT_k ht).2.2.2.1
    have k4 := (zT_k ht).2.2.2.2
    have r0 := (zT_r0 _ ht).1
    have r1 := (zT_r0 _ ht).2.1
    have r2 := (zT_r0 _ ht).2.2.1
    have r3 := (zT_r0 _ ht).2.2.2
    have h2 := l_rm2 (d := d) ht (x1 := .inl dv) hB hB0 B.toNat 0
    rw [pg_72_9]
    simp (disch := omega) only [en_72, wp_ireturn rk_72, pg_72_0, pg_72_36, pg_72_61, pg_72_67, pg_72_115, pg_72_121, cw_50, cw_51, cw_58, cw_67, wp_iload, wp_aload, wp_istore, wp_astore, wp_iinc, wp_iconst, wp_dup, wp_dup2, wp_pop, wp_iadd, wp_isub, wp_imul, wp_idiv, wp_irem, wp_ineg, wp_iand, wp_ior, wp_ixor, wp_ishl, wp_ishr, wp_getI, wp_putI, wp_getR, wp_goto, wp_goto_w, wq_if_eq, wq_if_ne, wq_if_lt, wq_if_ge, wq_if_gt, wq_if_le, wq_icmp_eq, wq_icmp_ne, wq_icmp_lt, wq_icmp_ge, wq_icmp_gt, wq_icmp_le, wp_max, wp_min, kI_inl, kR_some, kN_inl, kO_some, KT_none, KT_some, List.length_cons, List.length_nil, Nat.reduceAdd, Nat.reduceLT, Nat.reduceLeDiff, Nat.reduceMod, Nat.reduceDiv, true_and, and_true, Int.reduceLE, Int.reduceNeg, Int.reduceLT, Int.cast_ofNat_Int, Nat.zero_le, zI, Int.reduceAdd, Int.reduceSub, Int.reduceMul, not_true_eq_false, not_false_eq_true, false_implies, true_implies, i01_0, i01_1, ite_not, ↓reduceIte, zget_0, zget_1, zget_2, zget_3, zget_4, zget_5, zget_6, zget_7, zget_8, zget_9, zget_10, zset_0, zset_1, zset_2, zset_3, zset_4, zset_5, zset_6, zset_7, zset_8, zset_9, zset_10, k0, r0, r1, r2, r3, wp_iaload k1, wp_iaload k2, wp_iaload k3, wp_iaload k4, wp_iastore k1, wp_iastore k2, wp_iastore k3, wp_iastore k4, show i < 0 by omega, h2, lpd, setc_self, hw]
  | k + 1, i, im, x2, x3, h0, h1, hw, hn, Q => by
    have k0 := (zT_k ht).1
    have k1 := (zT_k ht).2.1
    have k2 := (zT_k ht).2.2.1
    have k3 := (zT_k ht).2.2.2.1
    have k4 := (zT_k ht).2.2.2.2
    have r0 := (zT_r0 _ ht).1
    have r1 := (zT_r0 _ ht).2.1
    have r2 := (zT_r0 _ ht).2.2.1
    have r3 := (zT_r0 _ ht).2.2.2
    have ih := l_rm1 ht hB hB0 (w0 := w0) (n0 := n0) k
    have ek : i = (k : Int) := by omega
    subst ek
    have hz := l_zero (d := d + 1) (oth := wka w0 n0 k) ht (x1 := .inl dv) (x2 := .inl B) (i := (k : Int)) (by omega) 24 0
    rw [pg_72_9]
    simp (disch := first | omega | assumption | (simp (disch := omega) only [setc_ne]; assumption)) only [en_72, wp_ireturn rk_72, pg_72_0, pg_72_36, pg_72_61, pg_72_67, pg_72_115, pg_72_121, cw_50, cw_51, cw_58, cw_67, wp_iload, wp_aload, wp_istore, wp_astore, wp_iinc, wp_iconst, wp_dup, wp_dup2, wp_pop, wp_iadd, wp_isub, wp_imul, wp_idiv, wp_irem, wp_ineg, wp_iand, wp_ior, wp_ixor, wp_ishl, wp_ishr, wp_getI, wp_putI, wp_getR, wp_goto, wp_goto_w, wq_if_eq, wq_if_ne, wq_if_lt, wq_if_ge, wq_if_gt, wq_if_le, wq_icmp_eq, wq_icmp_ne, wq_icmp_lt, wq_icmp_ge, wq_icmp_gt, wq_icmp_le, wp_max, wp_min, kI_inl, kR_some, kN_inl, kO_some, KT_none, KT_some, List.length_cons, List.length_nil, Nat.reduceAdd, Nat.reduceLT, Nat.reduceLeDiff, Nat.reduceMod, Nat.reduceDiv, true_and, and_true, Int.reduceLE, Int.reduceNeg, Int.reduceLT, Int.cast_ofNat_Int, Nat.zero_le, zI, Int.reduceAdd, Int.reduceSub, Int.reduceMul, not_true_eq_false, not_false_eq_true, false_implies, true_implies, i01_0, i01_1, ite_not, ↓reduceIte, zget_0, zget_1, zget_2, zget_3, zget_4, zget_5, zget_6, zget_7, zget_8, zget_9, zget_10, zset_0, zset_1, zset_2, zset_3, zset_4, zset_5, zset_6, zset_7, zset_8, zset_9, zset_10, k0, r0, r1, r2, r3, wp_iaload k1, wp_iaload k2, wp_iaload k3, wp_iaload k4, wp_iastore k1, wp_iastore k2, wp_iastore k3, wp_iastore k4, show ¬ (k : Int) < 0 by omega, c_walkAt ht, c_isBehind ht, hz, ih, hw, hn, lpd, Int.add_neg_eq_sub, setc_at, setc_setc]
    clear ih hz
    clear k0 k1 k2 k3 k4 r0 r1 r2 r3
    have er : rmf w0 n0 dv k (im (t + 1)) = if wka w0 n0 k = dv ∨ bhB (im (t + 1)) (wka w0 n0 k) dv = true then zrw (im (t + 1)) (wka w0 n0 k) 0 else im (t + 1) := rfl
    rw [er]
    by_cases g1 : wka w0 n0 k = dv
    · rw [if_pos g1, if_pos (Or.inl g1)]
    · rw [if_neg g1]
      by_cases g2 : bhB (im (t + 1)) (wka w0 n0 k) dv = true
      · rw [if_pos g2, if_pos (Or.inr g2)]
      · rw [if_neg g2, if_neg (fun q => q.elim g1 g2)]
        exact ⟨fun h => h.2, fun h => ⟨⟨by omega, by omega⟩, h⟩⟩
/-- the cells without a device and what is behind it -/
def rmc (c w : Int → Int) (n dv : Int) : Int → Int := lpd (rmf w n dv) n.toNat c
theorem c_remove (ht : zT t) (hB : 0 ≤ im t 4 ∧ im t 4 ≤ 20) : CallP (d + 2) 72 [.inr (some t), .inl dv] im Q ↔
    Q (some (.inl (im t 4 - (lp (lff (rmc (im (t + 1)) (im (t + 3)) (im t 4) dv)) (im t 4).toNat 0 (im (t + 3), 0)).2))) (stw (setc im (t + 1) (rmc (im (t + 1)) (im (t + 3)) (im t 4) dv)) t (lp (lff (rmc (im (t + 1)) (im (t + 3)) (im t 4) dv)) (im t 4).toNat 0 (im (t + 3), 0))) := by
  have k0 := (zT_k ht).1
  have k1 := (zT_k ht).2.1
  have k2 := (zT_k ht).2.2.1
  have k3 := (zT_k ht).2.2.2.1
  have k4 := (zT_k ht).2.2.2.2
  have r0 := (zT_r0 _ ht).1
  have r1 := (zT_r0 _ ht).2.1
  have r2 := (zT_r0 _ ht).2.2.1
  have r3 := (zT_r0 _ ht).2.2.2
  have hl := l_rm1 (d := d) (dv := dv) (w0 := im (t + 3)) (n0 := im t 4) ht hB.2 (by omega) (im t 4).toNat (im t 4 - 1) im
  simp (disch := first | omega | rfl) only [en_72, wp_ireturn rk_72, pg_72_0, pg_72_36, pg_72_61, pg_72_67, pg_72_115, pg_72_121, cw_50, cw_51, cw_58, cw_67, wp_iload, wp_aload, wp_istore, wp_astore, wp_iinc, wp_iconst, wp_dup, wp_dup2, wp_pop, wp_iadd, wp_isub, wp_imul, wp_idiv, wp_irem, wp_ineg, wp_iand, wp_ior, wp_ixor, wp_ishl, wp_ishr, wp_getI, wp_putI, wp_getR, wp_goto, wp_goto_w, wq_if_eq, wq_if_ne, wq_if_lt, wq_if_ge, wq_if_gt, wq_if_le, wq_icmp_eq, wq_icmp_ne, wq_icmp_lt, wq_icmp_ge, wq_icmp_gt, wq_icmp_le, wp_max, wp_min, kI_inl, kR_some, kN_inl, kO_some, KT_none, KT_some, List.length_cons, List.length_nil, Nat.reduceAdd, Nat.reduceLT, Nat.reduceLeDiff, Nat.reduceMod, Nat.reduceDiv, true_and, and_true, Int.reduceLE, Int.reduceNeg, Int.reduceLT, Int.cast_ofNat_Int, Nat.zero_le, zI, Int.reduceAdd, Int.reduceSub, Int.reduceMul, not_true_eq_false, not_false_eq_true, false_implies, true_implies, i01_0, i01_1, ite_not, ↓reduceIte, zget_0, zget_1, zget_2, zget_3, zget_4, zget_5, zget_6, zget_7, zget_8, zget_9, zget_10, zset_0, zset_1, zset_2, zset_3, zset_4, zset_5, zset_6, zset_7, zset_8, zset_9, zset_10, k0, r0, r1, r2, r3, wp_iaload k1, wp_iaload k2, wp_iaload k3, wp_iaload k4, wp_iastore k1, wp_iastore k2, wp_iastore k3, wp_iastore k4, hl, rmc]
  exact ⟨fun h => h.2, fun h => ⟨⟨by omega, by omega⟩, h⟩⟩
end TY
