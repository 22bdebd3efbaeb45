/-! THE REFERENCE: what may move, rows -/
section MR1
variable {d : Nat} {im : zM} {Q : Option zV → zM → Prop} {a b v dv kd sl i j k f e bu t : Int}
abbrev zRb : Type := (Int → Int) × (Int → Int) × (Int → Int) × (Int → Int) × (Int → Int) × Int × Int
def rbm (X : zM) (r : zRb) : zM := setc (setc (setc (setc (setc (setc X 181 r.1) 182 r.2.1) 183 r.2.2.1) 184 r.2.2.2.1) 185 r.2.2.2.2.1) 171 (ups (ups (X 171) 18 r.2.2.2.2.2.1) 19 r.2.2.2.2.2.2)
theorem rbm_o {X : zM} {r : zRb} {p : Nat} (h : p < 171 ∨ (171 < p ∧ p < 181) ∨ 185 < p) : rbm X r p = X p := by
  unfold rbm
  rw [setc_ne _ _ (by omega), setc_ne _ _ (by omega), setc_ne _ _ (by omega), setc_ne _ _ (by omega), setc_ne _ _ (by omega), setc_ne _ _ (by omega)]
theorem rbm_A {X : zM} {r : zRb} : rbm X r 172 = X 172 := rbm_o (by omega)
theorem rbm_m {X : zM} {r : zRb} : rbm X r 171 18 = r.2.2.2.2.2.1 := by
  unfold rbm
  rw [setc_at, ups_ne _ _ (by omega), ups_at]
theorem rbm_n {X : zM} {r : zRb} : rbm X r 171 19 = r.2.2.2.2.2.2 := by
  unfold rbm
  rw [setc_at, ups_at]
theorem rbm_f {X : zM} {r : zRb} (h : f ≠ 18) (h1 : f ≠ 19) : rbm X r 171 f = X 171 f := by
  unfold rbm
  rw [setc_at, ups_ne _ _ h1, ups_ne _ _ h]
theorem rbm_sm {X : zM} {r : zRb} : setc (rbm X r) 171 (ups (rbm X r 171) 18 v) = rbm X (r.1, r.2.1, r.2.2.1, r.2.2.2.1, r.2.2.2.2.1, v, r.2.2.2.2.2.2) := by
  unfold rbm
  rw [setc_at, setc_setc]
  congr 1
  funext j
  unfold ups
  grind
theorem rbm_sn {X : zM} {r : zRb} : setc (rbm X r) 171 (ups (rbm X r 171) 19 v) = rbm X (r.1, r.2.1, r.2.2.1, r.2.2.2.1, r.2.2.2.2.1, r.2.2.2.2.2.1, v) := by
  unfold rbm
  rw [setc_at, setc_setc, ups_ups]
theorem rbm_T {X : zM} {r : zRb} : rbm X r 181 = r.1 := by
  unfold rbm
  rw [setc_ne _ _ (by omega), setc_ne _ _ (by omega), setc_ne _ _ (by omega), setc_ne _ _ (by omega), setc_ne _ _ (by omega), setc_at]
theorem rbm_sT {X : zM} {r : zRb} {c : Int → Int} : setc (rbm X r) 181 c = rbm X (c, r.2.1, r.2.2.1, r.2.2.2.1, r.2.2.2.2.1, r.2.2.2.2.2.1, r.2.2.2.2.2.2) := by
  unfold rbm
  rw [setc_comm _ _ _ (show (171 : Nat) ≠ 181 by omega), setc_comm _ _ _ (show (185 : Nat) ≠ 181 by omega), setc_comm _ _ _ (show (184 : Nat) ≠ 181 by omega), setc_comm _ _ _ (show (183 : Nat) ≠ 181 by omega), setc_comm _ _ _ (show (182 : Nat) ≠ 181 by omega), setc_setc]
theorem rbm_W {X : zM} {r : zRb} : rbm X r 182 = r.2.1 := by
  unfold rbm
  rw [setc_ne _ _ (by omega), setc_ne _ _ (by omega), setc_ne _ _ (by omega), setc_ne _ _ (by omega), setc_at]
theorem rbm_sW {X : zM} {r : zRb} {c : Int → Int} : setc (rbm X r) 182 c = rbm X (r.1, c, r.2.2.1, r.2.2.2.1, r.2.2.2.2.1, r.2.2.2.2.2.1, r.2.2.2.2.2.2) := by
  unfold rbm
  rw [setc_comm _ _ _ (show (171 : Nat) ≠ 182 by omega), setc_comm _ _ _ (show (185 : Nat) ≠ 182 by omega), setc_comm _ _ _ (show (184 : Nat) ≠ 182 by omega), setc_comm _ _ _ (show (183 : Nat) ≠ 182 by omega), setc_setc]
theorem rbm_M {X : zM} {r : zRb} : rbm X r 183 = r.2.2.1 := by
  unfold rbm
  rw [setc_ne _ _ (by omega), setc_ne _ _ (by omega), setc_ne _ _ (by omega), setc_at]
theorem rbm_sM {X : zM} {r : zRb} {c : Int → Int} : setc (rbm X r) 183 c = rbm X (r.1, r.2.1, c, r.2.2.2.1, r.2.2.2.2.1, r.2.2.2.2.2.1, r.2.2.2.2.2.2) := by
  unfold rbm
  rw [setc_comm _ _ _ (show (171 : Nat) ≠ 183 by omega), setc_comm _ _ _ (show (185 : Nat) ≠ 183 by omega), setc_comm _ _ _ (show (184 : Nat) ≠ 183 by omega), setc_setc]
theorem rbm_R {X : zM} {r : zRb} : rbm X r 184 = r.2.2.2.1 := by
  unfold rbm
  rw [setc_ne _ _ (by omega), setc_ne _ _ (by omega), setc_at]
theorem rbm_sR {X : zM} {r : zRb} {c : Int → Int} : setc (rbm X r) 184 c = rbm X (r.1, r.2.1, r.2.2.1, c, r.2.2.2.2.1, r.2.2.2.2.2.1, r.2.2.2.2.2.2) := by
  unfold rbm
  rw [setc_comm _ _ _ (show (171 : Nat) ≠ 184 by omega), setc_comm _ _ _ (show (185 : Nat) ≠ 184 by omega), setc_setc]
theorem rbm_V {X : zM} {r : zRb} : rbm X r 185 = r.2.2.2.2.1 := by
  unfold rbm
  rw [setc_ne _ _ (by omega), setc_at]
theorem rbm_sV {X : zM} {r : zRb} {c : Int → Int} : setc (rbm X r) 185 c = rbm X (r.1, r.2.1, r.2.2.1, r.2.2.2.1, c, r.2.2.2.2.2.1, r.2.2.2.2.2.2) := by
  unfold rbm
  rw [setc_comm _ _ _ (show (171 : Nat) ≠ 185 by omega), setc_setc]
def rbg (X : zM) : zRb := (X 181, X 182, X 183, X 184, X 185, X 171 18, X 171 19)
theorem rbm_self (X : zM) : rbm X (rbg X) = X := by
  unfold rbm rbg
  dsimp only
  rw [setc_self, setc_self, setc_self, setc_self, setc_self, ups_self, ups_self, setc_self]
def lmA (A : Int → Int) (dv k : Int) (a : Int) (y : (Int → Int) × Int) : (Int → Int) × Int := if A (23 * dv + (6 + a)) = k then (ups y.1 y.2 (3 * dv + a), y.2 + 1) else y
def lmD (A : Int → Int) (dv k : Int) (y : (Int → Int) × Int) : (Int → Int) × Int := lp (lmA A dv k) (A (23 * dv + 5)).toNat 0 y
def bnM (bu : Int) : Int := if bu = 20 then -1 else bu
def lmS (A : Int → Int) (bu k : Int) (sl : Int) (y : (Int → Int) × Int) : (Int → Int) × Int := if 0 ≤ ff (isM A (bnM bu) sl) 20 0 ∧ onM A (ff (isM A (bnM bu) sl) 20 0) then lmD A (ff (isM A (bnM bu) sl) 20 0) k y else y
abbrev rMn (r : zRb) (y : (Int → Int) × Int) : zRb := (r.1, r.2.1, y.1, r.2.2.2.1, r.2.2.2.2.1, y.2, r.2.2.2.2.2.2)
theorem l_lmA {X : zM} {A : Int → Int} (hX : X 172 = A) (hg : MG A) (hd : 0 ≤ dv ∧ dv < 20) {s : Int} : ∀ (n : Nat) (a : Int) (r : zRb), 0 ≤ a → a + n = ((A (23 * dv + 5)).toNat : Nat) → 0 ≤ r.2.2.2.2.2.1 ∧ r.2.2.2.2.2.1 + n ≤ 24 → ∃ x5, (0 ≤ (lp (lmA A dv k) n a (r.2.2.1, r.2.2.2.2.2.1)).2 ∧ (lp (lmA A dv k) n a (r.2.2.1, r.2.2.2.2.2.1)).2 ≤ r.2.2.2.2.2.1 + n) ∧ ∀ Q, wp none (d + 3) 210 (zpg 210 51) [.inr (some 171), .inl bu, .inl k, .inl s, .inl dv, .inl a] [] (rbm X r) Q ↔ wp none (d + 3) 210 (zpg 210 113) [.inr (some 171), .inl bu, .inl k, .inl s, .inl dv, x5] [] (rbm X (rMn r (lp (lmA A dv k) n a (r.2.2.1, r.2.2.2.2.2.1)))) Q
  | 0, a, r, h0, h1, h2 => by
    have hm := MG_many hg hd
    refine ⟨.inl a, by simp only [lp]; omega, fun Q => ?_⟩
    conv => lhs; rw [pg_210_51]
    simp (disch := omega) only [cw_142, wp_iload, wp_aload, wp_istore, wp_astore, wp_iinc, wp_iconst, wp_dup, wp_dup2, wp_pop, wp_iadd, wp_isub, wp_imul, wp_idiv, wp_irem, wp_ineg, wp_iand, wp_ior, wp_ixor, wp_ishl, wp_ishr, wp_getI, wp_putI, wp_getR, wp_goto, wp_goto_w, wq_if_eq, wq_if_ne, wq_if_lt, wq_if_ge, wq_if_gt, wq_if_le, wq_icmp_eq, wq_icmp_ne, wq_icmp_lt, wq_icmp_ge, wq_icmp_gt, wq_icmp_le, wp_max, wp_min, kI_inl, kR_some, kN_inl, kO_some, KT_none, KT_some, List.length_cons, List.length_nil, Nat.reduceAdd, Nat.reduceLT, Nat.reduceLeDiff, Nat.reduceMod, Nat.reduceDiv, true_and, and_true, Int.reduceLE, Int.reduceNeg, Int.reduceLT, Int.cast_ofNat_Int, Nat.zero_le, zI, Int.reduceAdd, Int.reduceSub, Int.reduceMul, not_true_eq_false, not_false_eq_true, false_implies, true_implies, i01_0, i01_1, ite_not, ↓reduceIte, zget_0, zget_1, zget_2, zget_3, zget_4, zget_5, zget_6, zget_7, zget_8, zget_9, zget_10, zset_0, zset_1, zset_2, zset_3, zset_4, zset_5, zset_6, zset_7, zset_8, zset_9, zset_10, kd_171, rf_171_0, rf_171_1, rf_171_3, rf_171_4, rf_171_5, rf_171_6, rf_171_7, rf_171_8, rf_171_10, rf_171_13, rf_171_14, rf_171_15, rf_171_16, rf_171_17, rf_171_20, rf_171_21, rf_171_27, rf_171_28, rf_171_29, rf_171_30, rf_171_31, c_of, rbm_A, hX, show A (23 * dv + 5) ≤ a by omega, if_true, lp, rMn]
  | n + 1, a, r, h0, h1, h2 => by
    have hm := MG_many hg hd
    by_cases c : A (23 * dv + (6 + a)) = k
    · have ec : lmA A dv k a (r.2.2.1, r.2.2.2.2.2.1) = (ups r.2.2.1 r.2.2.2.2.2.1 (3 * dv + a), r.2.2.2.2.2.1 + 1) := if_pos c
      obtain ⟨x5, ih1, ih2⟩ := l_lmA (s := s) hX hg hd n (a + 1) (rMn r (ups r.2.2.1 r.2.2.2.2.2.1 (3 * dv + a), r.2.2.2.2.2.1 + 1)) (by omega) (by omega) (by dsimp only; omega)
      simp only [lp, ec]
      refine ⟨x5, ⟨ih1.1, by have := ih1.2; dsimp only at this; omega⟩, fun Q => ?_⟩
      rw [← ih2 Q]
      conv => lhs; rw [pg_210_51]
      simp (disch := omega) only [pg_210_81, cw_142, wp_iload, wp_aload, wp_istore, wp_astore, wp_iinc, wp_iconst, wp_dup, wp_dup2, wp_pop, wp_iadd, wp_isub, wp_imul, wp_idiv, wp_irem, wp_ineg, wp_iand, wp_ior, wp_ixor, wp_ishl, wp_ishr, wp_getI, wp_putI, wp_getR, wp_goto, wp_goto_w, wq_if_eq, wq_if_ne, wq_if_lt, wq_if_ge, wq_if_gt, wq_if_le, wq_icmp_eq, wq_icmp_ne, wq_icmp_lt, wq_icmp_ge, wq_icmp_gt, wq_icmp_le, wp_max, wp_min, kI_inl, kR_some, kN_inl, kO_some, KT_none, KT_some, List.length_cons, List.length_nil, Nat.reduceAdd, Nat.reduceLT, Nat.reduceLeDiff, Nat.reduceMod, Nat.reduceDiv, true_and, and_true, Int.reduceLE, Int.reduceNeg, Int.reduceLT, Int.cast_ofNat_Int, Nat.zero_le, zI, Int.reduceAdd, Int.reduceSub, Int.reduceMul, not_true_eq_false, not_false_eq_true, false_implies, true_implies, i01_0, i01_1, ite_not, ↓reduceIte, zget_0, zget_1, zget_2, zget_3, zget_4, zget_5, zget_6, zget_7, zget_8, zget_9, zget_10, zset_0, zset_1, zset_2, zset_3, zset_4, zset_5, zset_6, zset_7, zset_8, zset_9, zset_10, kd_171, rf_171_0, rf_171_1, rf_171_3, rf_171_4, rf_171_5, rf_171_6, rf_171_7, rf_171_8, rf_171_10, rf_171_13, rf_171_14, rf_171_15, rf_171_16, rf_171_17, rf_171_20, rf_171_21, rf_171_27, rf_171_28, rf_171_29, rf_171_30, rf_171_31, c_of, rbm_A, hX, show ¬ A (23 * dv + 5) ≤ a by omega, if_false, c, if_true, wp_iastore kd_183, zu_setc, rbm_A, rbm_m, rbm_n, rbm_sm, rbm_sn, rbm_T, rbm_W, rbm_M, rbm_R, rbm_V, rbm_sT, rbm_sW, rbm_sM, rbm_sR, rbm_sV, rMn]
      try (repeat (refine (and_iff_right (by omega)).trans ?_))
      try exact Iff.rfl
    · have ec : lmA A dv k a (r.2.2.1, r.2.2.2.2.2.1) = (r.2.2.1, r.2.2.2.2.2.1) := if_neg c
      obtain ⟨x5, ih1, ih2⟩ := l_lmA (s := s) hX hg hd n (a + 1) r (by omega) (by omega) (by omega)
      simp only [lp, ec]
      refine ⟨x5, ⟨ih1.1, by omega⟩, fun Q => ?_⟩
      rw [← ih2 Q]
      conv => lhs; rw [pg_210_51]
      simp (disch := omega) only [pg_210_107, cw_142, wp_iload, wp_aload, wp_istore, wp_astore, wp_iinc, wp_iconst, wp_dup, wp_dup2, wp_pop, wp_iadd, wp_isub, wp_imul, wp_idiv, wp_irem, wp_ineg, wp_iand, wp_ior, wp_ixor, wp_ishl, wp_ishr, wp_getI, wp_putI, wp_getR, wp_goto, wp_goto_w, wq_if_eq, wq_if_ne, wq_if_lt, wq_if_ge, wq_if_gt, wq_if_le, wq_icmp_eq, wq_icmp_ne, wq_icmp_lt, wq_icmp_ge, wq_icmp_gt, wq_icmp_le, wp_max, wp_min, kI_inl, kR_some, kN_inl, kO_some, KT_none, KT_some, List.length_cons, List.length_nil, Nat.reduceAdd, Nat.reduceLT, Nat.reduceLeDiff, Nat.reduceMod, Nat.reduceDiv, true_and, and_true, Int.reduceLE, Int.reduceNeg, Int.reduceLT, Int.cast_ofNat_Int, Nat.zero_le, zI, Int.reduceAdd, Int.reduceSub, Int.reduceMul, not_true_eq_false, not_false_eq_true, false_implies, true_implies, i01_0, i01_1, ite_not, ↓reduceIte, zget_0, zget_1, zget_2, zget_3, zget_4, zget_5, zget_6, zget_7, zget_8, zget_9, zget_10, zset_0, zset_1, zset_2, zset_3, zset_4, zset_5, zset_6, zset_7, zset_8, zset_9, zset_10, kd_171, rf_171_0, rf_171_1, rf_171_3, rf_171_4, rf_171_5, rf_171_6, rf_171_7, rf_171_8, rf_171_10, rf_171_13, rf_171_14, rf_171_15, rf_171_16, rf_171_17, rf_171_20, rf_171_21, rf_171_27, rf_171_28, rf_171_29, rf_171_30, rf_171_31, c_of, rbm_A, hX, show ¬ A (23 * dv + 5) ≤ a by omega, if_false, c]
      try (repeat (refine (and_iff_right (by omega)).trans ?_))
      try exact Iff.rfl
theorem l_lmS {X : zM} {A : Int → Int} (hX : X 172 = A) (hg : MG A) (hb : 0 ≤ bu ∧ bu ≤ 20) : ∀ (n : Nat) (s : Int) (r : zRb) (x4 x5 : zV), 0 ≤ s → s + n = 8 → 0 ≤ r.2.2.2.2.2.1 ∧ r.2.2.2.2.2.1 ≤ 3 * s → (0 ≤ (lp (lmS A bu k) n s (r.2.2.1, r.2.2.2.2.2.1)).2 ∧ (lp (lmS A bu k) n s (r.2.2.1, r.2.2.2.2.2.1)).2 ≤ 24) ∧ ∀ Q, wp none (d + 3) 210 (zpg 210 7) [.inr (some 171), .inl bu, .inl k, .inl s, x4, x5] [] (rbm X r) Q ↔ Q none (rbm X (rMn r (lp (lmS A bu k) n s (r.2.2.1, r.2.2.2.2.2.1))))
  | 0, s, r, x4, x5, h0, h1, h2 => by
    refine ⟨by simp only [lp]; omega, fun Q => ?_⟩
    rw [pg_210_7]
    simp (disch := omega) only [wp_return rk_210, pg_210_24, pg_210_25, pg_210_48, pg_210_81, pg_210_107, pg_210_113, pg_210_119, cw_142, cw_147, cw_157, wp_iload, wp_aload, wp_istore, wp_astore, wp_iinc, wp_iconst, wp_dup, wp_dup2, wp_pop, wp_iadd, wp_isub, wp_imul, wp_idiv, wp_irem, wp_ineg, wp_iand, wp_ior, wp_ixor, wp_ishl, wp_ishr, wp_getI, wp_putI, wp_getR, wp_goto, wp_goto_w, wq_if_eq, wq_if_ne, wq_if_lt, wq_if_ge, wq_if_gt, wq_if_le, wq_icmp_eq, wq_icmp_ne, wq_icmp_lt, wq_icmp_ge, wq_icmp_gt, wq_icmp_le, wp_max, wp_min, kI_inl, kR_some, kN_inl, kO_some, KT_none, KT_some, List.length_cons, List.length_nil, Nat.reduceAdd, Nat.reduceLT, Nat.reduceLeDiff, Nat.reduceMod, Nat.reduceDiv, true_and, and_true, Int.reduceLE, Int.reduceNeg, Int.reduceLT, Int.cast_ofNat_Int, Nat.zero_le, zI, Int.reduceAdd, Int.reduceSub, Int.reduceMul, not_true_eq_false, not_false_eq_true, false_implies, true_implies, i01_0, i01_1, ite_not, ↓reduceIte, zget_0, zget_1, zget_2, zget_3, zget_4, zget_5, zget_6, zget_7, zget_8, zget_9, zget_10, zset_0, zset_1, zset_2, zset_3, zset_4, zset_5, zset_6, zset_7, zset_8, zset_9, zset_10, show 8 ≤ s by omega, if_true, lp, rMn]
  | n + 1, s, r, x4, x5, h0, h1, h2 => by
    have hin := fun Q => c_inSlot (d := d) (im := rbm X r) (a := bnM bu) (sl := s) (Q := Q)
    rw [rbm_A, hX] at hin
    have hfc := ff_cases (isM A (bnM bu) s) 20 0
    have e0 : ∀ Q, wp none (d + 3) 210 (zpg 210 7) [.inr (some 171), .inl bu, .inl k, .inl s, x4, x5] [] (rbm X r) Q ↔ CallP (d + 2) 157 [.inr (some 171), .inl (bnM bu), .inl s] (rbm X r) (KT none (d + 3) 210 [.istore 4, .iload 4, .ifCond .lt 113, .aload 0, .iload 4, .invokedynamic 147, .ifCond .ne 48, .goto 113] [.inr (some 171), .inl bu, .inl k, .inl s, x4, x5] [] Q) := by
      intro Q
      conv => lhs; rw [pg_210_7]
      by_cases c : bu = 20
      · have eb : bnM bu = -1 := if_pos c
        rw [eb]
        simp (disch := omega) only [pg_210_25, cw_157, wp_iload, wp_aload, wp_istore, wp_astore, wp_iinc, wp_iconst, wp_dup, wp_dup2, wp_pop, wp_iadd, wp_isub, wp_imul, wp_idiv, wp_irem, wp_ineg, wp_iand, wp_ior, wp_ixor, wp_ishl, wp_ishr, wp_getI, wp_putI, wp_getR, wp_goto, wp_goto_w, wq_if_eq, wq_if_ne, wq_if_lt, wq_if_ge, wq_if_gt, wq_if_le, wq_icmp_eq, wq_icmp_ne, wq_icmp_lt, wq_icmp_ge, wq_icmp_gt, wq_icmp_le, wp_max, wp_min, kI_inl, kR_some, kN_inl, kO_some, KT_none, KT_some, List.length_cons, List.length_nil, Nat.reduceAdd, Nat.reduceLT, Nat.reduceLeDiff, Nat.reduceMod, Nat.reduceDiv, true_and, and_true, Int.reduceLE, Int.reduceNeg, Int.reduceLT, Int.cast_ofNat_Int, Nat.zero_le, zI, Int.reduceAdd, Int.reduceSub, Int.reduceMul, not_true_eq_false, not_false_eq_true, false_implies, true_implies, i01_0, i01_1, ite_not, ↓reduceIte, zget_0, zget_1, zget_2, zget_3, zget_4, zget_5, zget_6, zget_7, zget_8, zget_9, zget_10, zset_0, zset_1, zset_2, zset_3, zset_4, zset_5, zset_6, zset_7, zset_8, zset_9, zset_10, kd_171, rf_171_0, rf_171_1, rf_171_3, rf_171_4, rf_171_5, rf_171_6, rf_171_7, rf_171_8, rf_171_10, rf_171_13, rf_171_14, rf_171_15, rf_171_16, rf_171_17, rf_171_20, rf_171_21, rf_171_27, rf_171_28, rf_171_29, rf_171_30, rf_171_31, show ¬ 8 ≤ s by omega, if_false, c, not_true_eq_false]
      · have eb : bnM bu = bu := if_neg c
        rw [eb]
        simp (disch := omega) only [pg_210_24, cw_157, wp_iload, wp_aload, wp_istore, wp_astore, wp_iinc, wp_iconst, wp_dup, wp_dup2, wp_pop, wp_iadd, wp_isub, wp_imul, wp_idiv, wp_irem, wp_ineg, wp_iand, wp_ior, wp_ixor, wp_ishl, wp_ishr, wp_getI, wp_putI, wp_getR, wp_goto, wp_goto_w, wq_if_eq, wq_if_ne, wq_if_lt, wq_if_ge, wq_if_gt, wq_if_le, wq_icmp_eq, wq_icmp_ne, wq_icmp_lt, wq_icmp_ge, wq_icmp_gt, wq_icmp_le, wp_max, wp_min, kI_inl, kR_some, kN_inl, kO_some, KT_none, KT_some, List.length_cons, List.length_nil, Nat.reduceAdd, Nat.reduceLT, Nat.reduceLeDiff, Nat.reduceMod, Nat.reduceDiv, true_and, and_true, Int.reduceLE, Int.reduceNeg, Int.reduceLT, Int.cast_ofNat_Int, Nat.zero_le, zI, Int.reduceAdd, Int.reduceSub, Int.reduceMul, not_true_eq_false, not_false_eq_true, false_implies, true_implies, i01_0, i01_1, ite_not, ↓reduceIte, zget_0, zget_1, zget_2, zget_3, zget_4, zget_5, zget_6, zget_7, zget_8, zget_9, zget_10, zset_0, zset_1, zset_2, zset_3, zset_4, zset_5, zset_6, zset_7, zset_8, zset_9, zset_10, kd_171, rf_171_0, rf_171_1, rf_171_3, rf_171_4, rf_171_5, rf_171_6, rf_171_7, rf_171_8, rf_171_10, rf_171_13, rf_171_14, rf_171_15, rf_171_16, rf_171_17, rf_171_20, rf_171_21, rf_171_27, rf_171_28, rf_171_29, rf_171_30, rf_171_31, show ¬ 8 ≤ s by omega, if_false, c, not_false_eq_true, if_true]
    have e113 : ∀ (r' : zRb) x4 x5, 0 ≤ r'.2.2.2.2.2.1 ∧ r'.2.2.2.2.2.1 ≤ 3 * (s + 1) → (0 ≤ (lp (lmS A bu k) n (s + 1) (r'.2.2.1, r'.2.2.2.2.2.1)).2 ∧ (lp (lmS A bu k) n (s + 1) (r'.2.2.1, r'.2.2.2.2.2.1)).2 ≤ 24) ∧ ∀ Q, wp none (d + 3) 210 (zpg 210 113) [.inr (some 171), .inl bu, .inl k, .inl s, x4, x5] [] (rbm X r') Q ↔ Q none (rbm X (rMn r' (lp (lmS A bu k) n (s + 1) (r'.2.2.1, r'.2.2.2.2.2.1)))) := by
      intro r' x4 x5 hr
      have ih := l_lmS hX hg hb n (s + 1) r' x4 x5 (by omega) (by omega) hr
      refine ⟨ih.1, fun Q => ?_⟩
      rw [← ih.2 Q]
      conv => lhs; rw [pg_210_113]
      simp (disch := omega) only [wp_iload, wp_aload, wp_istore, wp_astore, wp_iinc, wp_iconst, wp_dup, wp_dup2, wp_pop, wp_iadd, wp_isub, wp_imul, wp_idiv, wp_irem, wp_ineg, wp_iand, wp_ior, wp_ixor, wp_ishl, wp_ishr, wp_getI, wp_putI, wp_getR, wp_goto, wp_goto_w, wq_if_eq, wq_if_ne, wq_if_lt, wq_if_ge, wq_if_gt, wq_if_le, wq_icmp_eq, wq_icmp_ne, wq_icmp_lt, wq_icmp_ge, wq_icmp_gt, wq_icmp_le, wp_max, wp_min, kI_inl, kR_some, kN_inl, kO_some, KT_none, KT_some, List.length_cons, List.length_nil, Nat.reduceAdd, Nat.reduceLT, Nat.reduceLeDiff, Nat.reduceMod, Nat.reduceDiv, true_and, and_true, Int.reduceLE, Int.reduceNeg, Int.reduceLT, Int.cast_ofNat_Int, Nat.zero_le, zI, Int.reduceAdd, Int.reduceSub, Int.reduceMul, not_true_eq_false, not_false_eq_true, false_implies, true_implies, i01_0, i01_1, ite_not, ↓reduceIte, zget_0, zget_1, zget_2, zget_3, zget_4, zget_5, zget_6, zget_7, zget_8, zget_9, zget_10, zset_0, zset_1, zset_2, zset_3, zset_4, zset_5, zset_6, zset_7, zset_8, zset_9, zset_10]
      try (repeat (refine (and_iff_right (by omega)).trans ?_))
      try exact Iff.rfl
    simp only [lp]
    generalize hD : ff (isM A (bnM bu) s) 20 0 = D at *
    by_cases c1 : 0 ≤ D
    · have hd : 0 ≤ D ∧ D < 20 := by omega
      have hon := fun Q => c_onM (d := d) (im := rbm X r) (dv := D) (Q := Q)
      rw [rbm_A, hX] at hon
      by_cases c2 : onM A D
      · have hm := MG_many hg hd
        obtain ⟨x5', hl1, hl2⟩ := l_lmA (d := d) (bu := bu) (k := k) (s := s) hX hg hd (A (23 * D + 5)).toNat 0 r (by omega) (by omega) (by omega)
        have ec : lmS A bu k s (r.2.2.1, r.2.2.2.2.2.1) = lmD A D k (r.2.2.1, r.2.2.2.2.2.1) := by
          unfold lmS
          rw [hD, if_pos ⟨c1, c2⟩]
        have i1 := e113 (rMn r (lp (lmA A D k) (A (23 * D + 5)).toNat 0 (r.2.2.1, r.2.2.2.2.2.1))) (.inl D) x5' (by dsimp only; omega)
        rw [ec]
        refine ⟨i1.1, fun Q => ?_⟩
        rw [e0]
        simp (disch := omega) only [hin, wp_iload, wp_aload, wp_istore, wp_astore, wp_iinc, wp_iconst, wp_dup, wp_dup2, wp_pop, wp_iadd, wp_isub, wp_imul, wp_idiv, wp_irem, wp_ineg, wp_iand, wp_ior, wp_ixor, wp_ishl, wp_ishr, wp_getI, wp_putI, wp_getR, wp_goto, wp_goto_w, wq_if_eq, wq_if_ne, wq_if_lt, wq_if_ge, wq_if_gt, wq_if_le, wq_icmp_eq, wq_icmp_ne, wq_icmp_lt, wq_icmp_ge, wq_icmp_gt, wq_icmp_le, wp_max, wp_min, kI_inl, kR_some, kN_inl, kO_some, KT_none, KT_some, List.length_cons, List.length_nil, Nat.reduceAdd, Nat.reduceLT, Nat.reduceLeDiff, Nat.reduceMod, Nat.reduceDiv, true_and, and_true, Int.reduceLE, Int.reduceNeg, Int.reduceLT, Int.cast_ofNat_Int, Nat.zero_le, zI, Int.reduceAdd, Int.reduceSub, Int.reduceMul, not_true_eq_false, not_false_eq_true, false_implies, true_implies, i01_0, i01_1, ite_not, ↓reduceIte, zget_0, zget_1, zget_2, zget_3, zget_4, zget_5, zget_6, zget_7, zget_8, zget_9, zget_10, zset_0, zset_1, zset_2, zset_3, zset_4, zset_5, zset_6, zset_7, zset_8, zset_9, zset_10, kd_171, rf_171_0, rf_171_1, rf_171_3, rf_171_4, rf_171_5, rf_171_6, rf_171_7, rf_171_8, rf_171_10, rf_171_13, rf_171_14, rf_171_15, rf_171_16, rf_171_17, rf_171_20, rf_171_21, rf_171_27, rf_171_28, rf_171_29, rf_171_30, rf_171_31, show ¬ D < 0 by omega, if_false, cw_147, hon, if_pos c2]
        simp (disch := omega) only [show ¬ (1 : Int) = 0 by omega, not_false_eq_true, if_true, pg_210_48, wp_iload, wp_aload, wp_istore, wp_astore, wp_iinc, wp_iconst, wp_dup, wp_dup2, wp_pop, wp_iadd, wp_isub, wp_imul, wp_idiv, wp_irem, wp_ineg, wp_iand, wp_ior, wp_ixor, wp_ishl, wp_ishr, wp_getI, wp_putI, wp_getR, wp_goto, wp_goto_w, wq_if_eq, wq_if_ne, wq_if_lt, wq_if_ge, wq_if_gt, wq_if_le, wq_icmp_eq, wq_icmp_ne, wq_icmp_lt, wq_icmp_ge, wq_icmp_gt, wq_icmp_le, wp_max, wp_min, kI_inl, kR_some, kN_inl, kO_some, KT_none, KT_some, List.length_cons, List.length_nil, Nat.reduceAdd, Nat.reduceLT, Nat.reduceLeDiff, Nat.reduceMod, Nat.reduceDiv, true_and, and_true, Int.reduceLE, Int.reduceNeg, Int.reduceLT, Int.cast_ofNat_Int, Nat.zero_le, zI, Int.reduceAdd, Int.reduceSub, Int.reduceMul, not_true_eq_false, not_false_eq_true, false_implies, true_implies, i01_0, i01_1, ite_not, ↓reduceIte, zget_0, zget_1, zget_2, zget_3, zget_4, zget_5, zget_6, zget_7, zget_8, zget_9, zget_10, zset_0, zset_1, zset_2, zset_3, zset_4, zset_5, zset_6, zset_7, zset_8, zset_9, zset_10]
        rw [hl2]
        exact i1.2 Q
      · have ec : lmS A bu k s (r.2.2.1, r.2.2.2.2.2.1) = (r.2.2.1, r.2.2.2.2.2.1) := by
          unfold lmS
          rw [hD, if_neg (fun q => c2 q.2)]
        have i1 := e113 r (.inl D) x5 (by omega)
        rw [ec]
        refine ⟨i1.1, fun Q => ?_⟩
        rw [e0]
        simp (disch := omega) only [hin, wp_iload, wp_aload, wp_istore, wp_astore, wp_iinc, wp_iconst, wp_dup, wp_dup2, wp_pop, wp_iadd, wp_isub, wp_imul, wp_idiv, wp_irem, wp_ineg, wp_iand, wp_ior, wp_ixor, wp_ishl, wp_ishr, wp_getI, wp_putI, wp_getR, wp_goto, wp_goto_w, wq_if_eq, wq_if_ne, wq_if_lt, wq_if_ge, wq_if_gt, wq_if_le, wq_icmp_eq, wq_icmp_ne, wq_icmp_lt, wq_icmp_ge, wq_icmp_gt, wq_icmp_le, wp_max, wp_min, kI_inl, kR_some, kN_inl, kO_some, KT_none, KT_some, List.length_cons, List.length_nil, Nat.reduceAdd, Nat.reduceLT, Nat.reduceLeDiff, Nat.reduceMod, Nat.reduceDiv, true_and, and_true, Int.reduceLE, Int.reduceNeg, Int.reduceLT, Int.cast_ofNat_Int, Nat.zero_le, zI, Int.reduceAdd, Int.reduceSub, Int.reduceMul, not_true_eq_false, not_false_eq_true, false_implies, true_implies, i01_0, i01_1, ite_not, ↓reduceIte, zget_0, zget_1, zget_2, zget_3, zget_4, zget_5, zget_6, zget_7, zget_8, zget_9, zget_10, zset_0, zset_1, zset_2, zset_3, zset_4, zset_5, zset_6, zset_7, zset_8, zset_9, zset_10, kd_171, rf_171_0, rf_171_1, rf_171_3, rf_171_4, rf_171_5, rf_171_6, rf_171_7, rf_171_8, rf_171_10, rf_171_13, rf_171_14, rf_171_15, rf_171_16, rf_171_17, rf_171_20, rf_171_21, rf_171_27, rf_171_28, rf_171_29, rf_171_30, rf_171_31, show ¬ D < 0 by omega, if_false, cw_147, hon, if_neg c2]
        try simp only [not_true_eq_false, if_false]
        exact i1.2 Q
    · have ec : lmS A bu k s (r.2.2.1, r.2.2.2.2.2.1) = (r.2.2.1, r.2.2.2.2.2.1) := by
        unfold lmS
        rw [hD, if_neg (fun q => c1 q.1)]
      have i1 := e113 r (.inl D) x5 (by omega)
      rw [ec]
      refine ⟨i1.1, fun Q => ?_⟩
      rw [e0]
      simp (disch := omega) only [hin, wp_iload, wp_aload, wp_istore, wp_astore, wp_iinc, wp_iconst, wp_dup, wp_dup2, wp_pop, wp_iadd, wp_isub, wp_imul, wp_idiv, wp_irem, wp_ineg, wp_iand, wp_ior, wp_ixor, wp_ishl, wp_ishr, wp_getI, wp_putI, wp_getR, wp_goto, wp_goto_w, wq_if_eq, wq_if_ne, wq_if_lt, wq_if_ge, wq_if_gt, wq_if_le, wq_icmp_eq, wq_icmp_ne, wq_icmp_lt, wq_icmp_ge, wq_icmp_gt, wq_icmp_le, wp_max, wp_min, kI_inl, kR_some, kN_inl, kO_some, KT_none, KT_some, List.length_cons, List.length_nil, Nat.reduceAdd, Nat.reduceLT, Nat.reduceLeDiff, Nat.reduceMod, Nat.reduceDiv, true_and, and_true, Int.reduceLE, Int.reduceNeg, Int.reduceLT, Int.cast_ofNat_Int, Nat.zero_le, zI, Int.reduceAdd, Int.reduceSub, Int.reduceMul, not_true_eq_false, not_false_eq_true, false_implies, true_implies, i01_0, i01_1, ite_not, ↓reduceIte, zget_0, zget_1, zget_2, zget_3, zget_4, zget_5, zget_6, zget_7, zget_8, zget_9, zget_10, zset_0, zset_1, zset_2, zset_3, zset_4, zset_5, zset_6, zset_7, zset_8, zset_9, zset_10, kd_171, rf_171_0, rf_171_1, rf_171_3, rf_171_4, rf_171_5, rf_171_6, rf_171_7, rf_171_8, rf_171_10, rf_171_13, rf_171_14, rf_171_15, rf_171_16, rf_171_17, rf_171_20, rf_171_21, rf_171_27, rf_171_28, rf_171_29, rf_171_30, rf_171_31, show D < 0 by omega, if_true]
      exact i1.2 Q
def lmM (A M : Int → Int) (bu k : Int) : (Int → Int) × Int := lp (lmS A bu k) 8 0 (M, 0)
theorem c_layMovable {X : zM} {A : Int → Int} {r : zRb} (hX : X 172 = A) (hg : MG A) (hb : 0 ≤ bu ∧ bu ≤ 20) : (CallP (d + 3) 210 [.inr (some 171), .inl bu, .inl k] (rbm X r) Q ↔ Q none (rbm X (rMn r (lmM A r.2.2.1 bu k)))) ∧ (0 ≤ (lmM A r.2.2.1 bu k).2 ∧ (lmM A r.2.2.1 bu k).2 ≤ 24) := by
  have hl := l_lmS (d := d) (k := k) hX hg hb 8 0 (rMn r (r.2.2.1, 0)) (.inr none) (.inr none) (by omega) (by omega) (by dsimp only; omega)
  refine ⟨?_, hl.1⟩
  have h1 := hl.2 Q
  simp (disch := omega) only [en_210, pg_210_0, wp_iload, wp_aload, wp_istore, wp_astore, wp_iinc, wp_iconst, wp_dup, wp_dup2, wp_pop, wp_iadd, wp_isub, wp_imul, wp_idiv, wp_irem, wp_ineg, wp_iand, wp_ior, wp_ixor, wp_ishl, wp_ishr, wp_getI, wp_putI, wp_getR, wp_goto, wp_goto_w, wq_if_eq, wq_if_ne, wq_if_lt, wq_if_ge, wq_if_gt, wq_if_le, wq_icmp_eq, wq_icmp_ne, wq_icmp_lt, wq_icmp_ge, wq_icmp_gt, wq_icmp_le, wp_max, wp_min, kI_inl, kR_some, kN_inl, kO_some, KT_none, KT_some, List.length_cons, List.length_nil, Nat.reduceAdd, Nat.reduceLT, Nat.reduceLeDiff, Nat.reduceMod, Nat.reduceDiv, true_and, and_true, Int.reduceLE, Int.reduceNeg, Int.reduceLT, Int.cast_ofNat_Int, Nat.zero_le, zI, Int.reduceAdd, Int.reduceSub, Int.reduceMul, not_true_eq_false, not_false_eq_true, false_implies, true_implies, i01_0, i01_1, ite_not, ↓reduceIte, zget_0, zget_1, zget_2, zget_3, zget_4, zget_5, zget_6, zget_7, zget_8, zget_9, zget_10, zset_0, zset_1, zset_2, zset_3, zset_4, zset_5, zset_6, zset_7, zset_8, zset_9, zset_10, kd_171, rf_171_0, rf_171_1, rf_171_3, rf_171_4, rf_171_5, rf_171_6, rf_171_7, rf_171_8, rf_171_10, rf_171_13, rf_171_14, rf_171_15, rf_171_16, rf_171_17, rf_171_20, rf_171_21, rf_171_27, rf_171_28, rf_171_29, rf_171_30, rf_171_31, zu_setc, rbm_sm]
  exact h1
theorem l_fr1 {n : Int} (hn : 0 ≤ n ∧ n ≤ 3) {X : zM} : ∀ (m : Nat) (i : Int) (r : zRb), 0 ≤ i → i + m = n → ∀ Q, wp none d 213 (zpg 213 7) [.inr (some 171), .inl n, .inl i] [] (rbm X r) Q ↔ wp none d 213 (zpg 213 25) [.inr (some 171), .inl n, .inl n] [] (rbm X (r.1, r.2.1, r.2.2.1, lp (fun i c => ups c i i) m i r.2.2.2.1, r.2.2.2.2.1, r.2.2.2.2.2.1, r.2.2.2.2.2.2)) Q
  | 0, i, r, h0, h1, Q => by
    conv => lhs; rw [pg_213_7]
    simp (disch := omega) only [wp_iload, wp_aload, wp_istore, wp_astore, wp_iinc, wp_iconst, wp_dup, wp_dup2, wp_pop, wp_iadd, wp_isub, wp_imul, wp_idiv, wp_irem, wp_ineg, wp_iand, wp_ior, wp_ixor, wp_ishl, wp_ishr, wp_getI, wp_putI, wp_getR, wp_goto, wp_goto_w, wq_if_eq, wq_if_ne, wq_if_lt, wq_if_ge, wq_if_gt, wq_if_le, wq_icmp_eq, wq_icmp_ne, wq_icmp_lt, wq_icmp_ge, wq_icmp_gt, wq_icmp_le, wp_max, wp_min, kI_inl, kR_some, kN_inl, kO_some, KT_none, KT_some, List.length_cons, List.length_nil, Nat.reduceAdd, Nat.reduceLT, Nat.reduceLeDiff, Nat.reduceMod, Nat.reduceDiv, true_and, and_true, Int.reduceLE, Int.reduceNeg, Int.reduceLT, Int.cast_ofNat_Int, Nat.zero_le, zI, Int.reduceAdd, Int.reduceSub, Int.reduceMul, not_true_eq_false, not_false_eq_true, false_implies, true_implies, i01_0, i01_1, ite_not, ↓reduceIte, zget_0, zget_1, zget_2, zget_3, zget_4, zget_5, zget_6, zget_7, zget_8, zget_9, zget_10, zset_0, zset_1, zset_2, zset_3, zset_4, zset_5, zset_6, zset_7, zset_8, zset_9, zset_10, show n ≤ i by omega, if_true, lp]
    rw [show i = n by omega]
  | m + 1, i, r, h0, h1, Q => by
    have ih := l_fr1 hn (X := X) m (i + 1) (r.1, r.2.1, r.2.2.1, ups r.2.2.2.1 i i, r.2.2.2.2.1, r.2.2.2.2.2.1, r.2.2.2.2.2.2) (by omega) (by omega) Q
    simp only [lp]
    rw [← ih]
    conv => lhs; rw [pg_213_7]
    simp (disch := omega) only [wp_iload, wp_aload, wp_istore, wp_astore, wp_iinc, wp_iconst, wp_dup, wp_dup2, wp_pop, wp_iadd, wp_isub, wp_imul, wp_idiv, wp_irem, wp_ineg, wp_iand, wp_ior, wp_ixor, wp_ishl, wp_ishr, wp_getI, wp_putI, wp_getR, wp_goto, wp_goto_w, wq_if_eq, wq_if_ne, wq_if_lt, wq_if_ge, wq_if_gt, wq_if_le, wq_icmp_eq, wq_icmp_ne, wq_icmp_lt, wq_icmp_ge, wq_icmp_gt, wq_icmp_le, wp_max, wp_min, kI_inl, kR_some, kN_inl, kO_some, KT_none, KT_some, List.length_cons, List.length_nil, Nat.reduceAdd, Nat.reduceLT, Nat.reduceLeDiff, Nat.reduceMod, Nat.reduceDiv, true_and, and_true, Int.reduceLE, Int.reduceNeg, Int.reduceLT, Int.cast_ofNat_Int, Nat.zero_le, zI, Int.reduceAdd, Int.reduceSub, Int.reduceMul, not_true_eq_false, not_false_eq_true, false_implies, true_implies, i01_0, i01_1, ite_not, ↓reduceIte, zget_0, zget_1, zget_2, zget_3, zget_4, zget_5, zget_6, zget_7, zget_8, zget_9, zget_10, zset_0, zset_1, zset_2, zset_3, zset_4, zset_5, zset_6, zset_7, zset_8, zset_9, zset_10, kd_171, rf_171_0, rf_171_1, rf_171_3, rf_171_4, rf_171_5, rf_171_6, rf_171_7, rf_171_8, rf_171_10, rf_171_13, rf_171_14, rf_171_15, rf_171_16, rf_171_17, rf_171_20, rf_171_21, rf_171_27, rf_171_28, rf_171_29, rf_171_30, rf_171_31, wp_iastore kd_184, zu_setc, rbm_A, rbm_m, rbm_n, rbm_sm, rbm_sn, rbm_T, rbm_W, rbm_M, rbm_R, rbm_V, rbm_sT, rbm_sW, rbm_sM, rbm_sR, rbm_sV, show ¬ n ≤ i by omega, if_false]
    try (repeat (refine (and_iff_right (by omega)).trans ?_))
    try exact Iff.rfl
abbrev rFr (r : zRb) (n : Int) : zRb := (r.1, r.2.1, r.2.2.1, lp (fun i c => ups c i i) n.toNat 0 r.2.2.2.1, r.2.2.2.2.1, r.2.2.2.2.2.1, n)
theorem c_firstRow {X : zM} {n : Int} (hn : 0 ≤ n ∧ n ≤ 3) {r : zRb} : CallP d 213 [.inr (some 171), .inl n] (rbm X r) Q ↔ Q (some (.inl (if n ≤ r.2.2.2.2.2.1 then 1 else 0))) (rbm X (rFr r n)) := by
  have hl := l_fr1 (d := d) hn (X := X) n.toNat 0 (r.1, r.2.1, r.2.2.1, r.2.2.2.1, r.2.2.2.2.1, r.2.2.2.2.2.1, n) (by omega) (by omega) Q
  simp (disch := omega) only [en_213, pg_213_0, wp_iload, wp_aload, wp_istore, wp_astore, wp_iinc, wp_iconst, wp_dup, wp_dup2, wp_pop, wp_iadd, wp_isub, wp_imul, wp_idiv, wp_irem, wp_ineg, wp_iand, wp_ior, wp_ixor, wp_ishl, wp_ishr, wp_getI, wp_putI, wp_getR, wp_goto, wp_goto_w, wq_if_eq, wq_if_ne, wq_if_lt, wq_if_ge, wq_if_gt, wq_if_le, wq_icmp_eq, wq_icmp_ne, wq_icmp_lt, wq_icmp_ge, wq_icmp_gt, wq_icmp_le, wp_max, wp_min, kI_inl, kR_some, kN_inl, kO_some, KT_none, KT_some, List.length_cons, List.length_nil, Nat.reduceAdd, Nat.reduceLT, Nat.reduceLeDiff, Nat.reduceMod, Nat.reduceDiv, true_and, and_true, Int.reduceLE, Int.reduceNeg, Int.reduceLT, Int.cast_ofNat_Int, Nat.zero_le, zI, Int.reduceAdd, Int.reduceSub, Int.reduceMul, not_true_eq_false, not_false_eq_true, false_implies, true_implies, i01_0, i01_1, ite_not, ↓reduceIte, zget_0, zget_1, zget_2, zget_3, zget_4, zget_5, zget_6, zget_7, zget_8, zget_9, zget_10, zset_0, zset_1, zset_2, zset_3, zset_4, zset_5, zset_6, zset_7, zset_8, zset_9, zset_10, kd_171, rf_171_0, rf_171_1, rf_171_3, rf_171_4, rf_171_5, rf_171_6, rf_171_7, rf_171_8, rf_171_10, rf_171_13, rf_171_14, rf_171_15, rf_171_16, rf_171_17, rf_171_20, rf_171_21, rf_171_27, rf_171_28, rf_171_29, rf_171_30, rf_171_31, zu_setc, rbm_sn]
  rw [hl, pg_213_25]
  by_cases c : n ≤ r.2.2.2.2.2.1
  · rw [if_pos c]
    simp (disch := omega) only [wp_zreturn rk_213, pg_213_25, pg_213_37, pg_213_38, wp_iload, wp_aload, wp_istore, wp_astore, wp_iinc, wp_iconst, wp_dup, wp_dup2, wp_pop, wp_iadd, wp_isub, wp_imul, wp_idiv, wp_irem, wp_ineg, wp_iand, wp_ior, wp_ixor, wp_ishl, wp_ishr, wp_getI, wp_putI, wp_getR, wp_goto, wp_goto_w, wq_if_eq, wq_if_ne, wq_if_lt, wq_if_ge, wq_if_gt, wq_if_le, wq_icmp_eq, wq_icmp_ne, wq_icmp_lt, wq_icmp_ge, wq_icmp_gt, wq_icmp_le, wp_max, wp_min, kI_inl, kR_some, kN_inl, kO_some, KT_none, KT_some, List.length_cons, List.length_nil, Nat.reduceAdd, Nat.reduceLT, Nat.reduceLeDiff, Nat.reduceMod, Nat.reduceDiv, true_and, and_true, Int.reduceLE, Int.reduceNeg, Int.reduceLT, Int.cast_ofNat_Int, Nat.zero_le, zI, Int.reduceAdd, Int.reduceSub, Int.reduceMul, not_true_eq_false, not_false_eq_true, false_implies, true_implies, i01_0, i01_1, ite_not, ↓reduceIte, zget_0, zget_1, zget_2, zget_3, zget_4, zget_5, zget_6, zget_7, zget_8, zget_9, zget_10, zset_0, zset_1, zset_2, zset_3, zset_4, zset_5, zset_6, zset_7, zset_8, zset_9, zset_10, kd_171, rf_171_0, rf_171_1, rf_171_3, rf_171_4, rf_171_5, rf_171_6, rf_171_7, rf_171_8, rf_171_10, rf_171_13, rf_171_14, rf_171_15, rf_171_16, rf_171_17, rf_171_20, rf_171_21, rf_171_27, rf_171_28, rf_171_29, rf_171_30, rf_171_31, rbm_m, show ¬ r.2.2.2.2.2.1 < n by omega, if_false, or_true, true_and]
  · rw [if_neg c]
    simp (disch := omega) only [wp_zreturn rk_213, pg_213_25, pg_213_37, pg_213_38, wp_iload, wp_aload, wp_istore, wp_astore, wp_iinc, wp_iconst, wp_dup, wp_dup2, wp_pop, wp_iadd, wp_isub, wp_imul, wp_idiv, wp_irem, wp_ineg, wp_iand, wp_ior, wp_ixor, wp_ishl, wp_ishr, wp_getI, wp_putI, wp_getR, wp_goto, wp_goto_w, wq_if_eq, wq_if_ne, wq_if_lt, wq_if_ge, wq_if_gt, wq_if_le, wq_icmp_eq, wq_icmp_ne, wq_icmp_lt, wq_icmp_ge, wq_icmp_gt, wq_icmp_le, wp_max, wp_min, kI_inl, kR_some, kN_inl, kO_some, KT_none, KT_some, List.length_cons, List.length_nil, Nat.reduceAdd, Nat.reduceLT, Nat.reduceLeDiff, Nat.reduceMod, Nat.reduceDiv, true_and, and_true, Int.reduceLE, Int.reduceNeg, Int.reduceLT, Int.cast_ofNat_Int, Nat.zero_le, zI, Int.reduceAdd, Int.reduceSub, Int.reduceMul, not_true_eq_false, not_false_eq_true, false_implies, true_implies, i01_0, i01_1, ite_not, ↓reduceIte, zget_0, zget_1, zget_2, zget_3, zget_4, zget_5, zget_6, zget_7, zget_8, zget_9, zget_10, zset_0, zset_1, zset_2, zset_3, zset_4, zset_5, zset_6, zset_7, zset_8, zset_9, zset_10, kd_171, rf_171_0, rf_171_1, rf_171_3, rf_171_4, rf_171_5, rf_171_6, rf_171_7, rf_171_8, rf_171_10, rf_171_13, rf_171_14, rf_171_15, rf_171_16, rf_171_17, rf_171_20, rf_171_21, rf_171_27, rf_171_28, rf_171_29, rf_171_30, rf_171_31, rbm_m, show r.2.2.2.2.2.1 < n by omega, if_true, true_or, true_and]
def nrJ (len M : Int) : Nat → (Int → Int) → Int × (Int → Int)
  | 0, R => (0, R)
  | i + 1, R => if R (i : Nat) = M - len + (i : Nat) then nrJ len M i R else (1, lp nrf (len - ((i : Nat) + 1)).toNat ((i : Nat) + 1) (ups R (i : Nat) (R (i : Nat) + 1)))
abbrev rR (r : zRb) (c : Int → Int) : zRb := (r.1, r.2.1, r.2.2.1, c, r.2.2.2.2.1, r.2.2.2.2.2.1, r.2.2.2.2.2.2)
theorem l_nrb {X : zM} {n : Int} (hn : 0 ≤ n ∧ n ≤ 3) {x1 : zV} : ∀ (m : Nat) (j : Int) (r : zRb), 1 ≤ j → j + m = n → r.2.2.2.2.2.2 = n → -1000 ≤ r.2.2.2.1 (j - 1) ∧ r.2.2.2.1 (j - 1) ≤ 1000 - m → ∀ Q, wp none d 214 (zpg 214 57) [.inr (some 171), x1, .inl j] [] (rbm X r) Q ↔ Q (some (.inl 1)) (rbm X (rR r (lp nrf m j r.2.2.2.1)))
  | 0, j, r, h0, h1, h2, h3, Q => by
    rw [pg_214_57]
    simp (disch := omega) only [wp_zreturn rk_214, pg_214_37, pg_214_43, pg_214_87, wp_iload, wp_aload, wp_istore, wp_astore, wp_iinc, wp_iconst, wp_dup, wp_dup2, wp_pop, wp_iadd, wp_isub, wp_imul, wp_idiv, wp_irem, wp_ineg, wp_iand, wp_ior, wp_ixor, wp_ishl, wp_ishr, wp_getI, wp_putI, wp_getR, wp_goto, wp_goto_w, wq_if_eq, wq_if_ne, wq_if_lt, wq_if_ge, wq_if_gt, wq_if_le, wq_icmp_eq, wq_icmp_ne, wq_icmp_lt, wq_icmp_ge, wq_icmp_gt, wq_icmp_le, wp_max, wp_min, kI_inl, kR_some, kN_inl, kO_some, KT_none, KT_some, List.length_cons, List.length_nil, Nat.reduceAdd, Nat.reduceLT, Nat.reduceLeDiff, Nat.reduceMod, Nat.reduceDiv, true_and, and_true, Int.reduceLE, Int.reduceNeg, Int.reduceLT, Int.cast_ofNat_Int, Nat.zero_le, zI, Int.reduceAdd, Int.reduceSub, Int.reduceMul, not_true_eq_false, not_false_eq_true, false_implies, true_implies, i01_0, i01_1, ite_not, ↓reduceIte, zget_0, zget_1, zget_2, zget_3, zget_4, zget_5, zget_6, zget_7, zget_8, zget_9, zget_10, zset_0, zset_1, zset_2, zset_3, zset_4, zset_5, zset_6, zset_7, zset_8, zset_9, zset_10, kd_171, rf_171_0, rf_171_1, rf_171_3, rf_171_4, rf_171_5, rf_171_6, rf_171_7, rf_171_8, rf_171_10, rf_171_13, rf_171_14, rf_171_15, rf_171_16, rf_171_17, rf_171_20, rf_171_21, rf_171_27, rf_171_28, rf_171_29, rf_171_30, rf_171_31, rbm_n, h2, show n ≤ j by omega, if_true, lp, or_true, true_and, rR]
    have e : (r.1, r.2.1, r.2.2.1, r.2.2.2.1, r.2.2.2.2.1, r.2.2.2.2.2.1, n) = r := by
      rw [← h2]
    rw [e]
  | m + 1, j, r, h0, h1, h2, h3, Q => by
    have ih := l_nrb hn (X := X) (x1 := x1) m (j + 1) (rR r (nrf j r.2.2.2.1)) (by omega) (by omega) h2 (by
      unfold nrf
      dsimp only
      rw [show j + 1 - 1 = j by omega, ups_at]
      omega) Q
    simp only [lp]
    rw [pg_214_57]
    simp (disch := omega) only [wp_zreturn rk_214, pg_214_37, pg_214_43, pg_214_87, wp_iload, wp_aload, wp_istore, wp_astore, wp_iinc, wp_iconst, wp_dup, wp_dup2, wp_pop, wp_iadd, wp_isub, wp_imul, wp_idiv, wp_irem, wp_ineg, wp_iand, wp_ior, wp_ixor, wp_ishl, wp_ishr, wp_getI, wp_putI, wp_getR, wp_goto, wp_goto_w, wq_if_eq, wq_if_ne, wq_if_lt, wq_if_ge, wq_if_gt, wq_if_le, wq_icmp_eq, wq_icmp_ne, wq_icmp_lt, wq_icmp_ge, wq_icmp_gt, wq_icmp_le, wp_max, wp_min, kI_inl, kR_some, kN_inl, kO_some, KT_none, KT_some, List.length_cons, List.length_nil, Nat.reduceAdd, Nat.reduceLT, Nat.reduceLeDiff, Nat.reduceMod, Nat.reduceDiv, true_and, and_true, Int.reduceLE, Int.reduceNeg, Int.reduceLT, Int.cast_ofNat_Int, Nat.zero_le, zI, Int.reduceAdd, Int.reduceSub, Int.reduceMul, not_true_eq_false, not_false_eq_true, false_implies, true_implies, i01_0, i01_1, ite_not, ↓reduceIte, zget_0, zget_1, zget_2, zget_3, zget_4, zget_5, zget_6, zget_7, zget_8, zget_9, zget_10, zset_0, zset_1, zset_2, zset_3, zset_4, zset_5, zset_6, zset_7, zset_8, zset_9, zset_10, kd_171, rf_171_0, rf_171_1, rf_171_3, rf_171_4, rf_171_5, rf_171_6, rf_171_7, rf_171_8, rf_171_10, rf_171_13, rf_171_14, rf_171_15, rf_171_16, rf_171_17, rf_171_20, rf_171_21, rf_171_27, rf_171_28, rf_171_29, rf_171_30, rf_171_31, rbm_n, h2, show ¬ n ≤ j by omega, if_false, wp_iaload kd_184, wp_iastore kd_184, zu_setc, rbm_A, rbm_m, rbm_n, rbm_sm, rbm_sn, rbm_T, rbm_W, rbm_M, rbm_R, rbm_V, rbm_sT, rbm_sW, rbm_sM, rbm_sR, rbm_sV]
    repeat (refine (and_iff_right (by omega)).trans ?_)
    simp only [nrf, rR, h2] at ih ⊢
    exact ih
theorem l_nra {X : zM} {n : Int} (hn : 0 ≤ n ∧ n ≤ 3) {x2 : zV} : ∀ (m : Nat) (r : zRb), (m : Int) ≤ n → r.2.2.2.2.2.2 = n → -1000 ≤ r.2.2.2.2.2.1 ∧ r.2.2.2.2.2.1 ≤ 1000 → (∀ j : Int, 0 ≤ j → j < 3 → 0 ≤ r.2.2.2.1 j ∧ r.2.2.2.1 j ≤ 100) → ∀ Q, wp none d 214 (zpg 214 7) [.inr (some 171), .inl ((m : Int) - 1), x2] [] (rbm X r) Q ↔ Q (some (.inl (nrJ n r.2.2.2.2.2.1 m r.2.2.2.1).1)) (rbm X (rR r (nrJ n r.2.2.2.2.2.1 m r.2.2.2.1).2))
  | 0, r, h0, h2, h3, h4, Q => by
    rw [pg_214_7]
    simp (disch := omega) only [pg_214_37, wp_zreturn rk_214, wp_iload, wp_aload, wp_istore, wp_astore, wp_iinc, wp_iconst, wp_dup, wp_dup2, wp_pop, wp_iadd, wp_isub, wp_imul, wp_idiv, wp_irem, wp_ineg, wp_iand, wp_ior, wp_ixor, wp_ishl, wp_ishr, wp_getI, wp_putI, wp_getR, wp_goto, wp_goto_w, wq_if_eq, wq_if_ne, wq_if_lt, wq_if_ge, wq_if_gt, wq_if_le, wq_icmp_eq, wq_icmp_ne, wq_icmp_lt, wq_icmp_ge, wq_icmp_gt, wq_icmp_le, wp_max, wp_min, kI_inl, kR_some, kN_inl, kO_some, KT_none, KT_some, List.length_cons, List.length_nil, Nat.reduceAdd, Nat.reduceLT, Nat.reduceLeDiff, Nat.reduceMod, Nat.reduceDiv, true_and, and_true, Int.reduceLE, Int.reduceNeg, Int.reduceLT, Int.cast_ofNat_Int, Nat.zero_le, zI, Int.reduceAdd, Int.reduceSub, Int.reduceMul, not_true_eq_false, not_false_eq_true, false_implies, true_implies, i01_0, i01_1, ite_not, ↓reduceIte, zget_0, zget_1, zget_2, zget_3, zget_4, zget_5, zget_6, zget_7, zget_8, zget_9, zget_10, zset_0, zset_1, zset_2, zset_3, zset_4, zset_5, zset_6, zset_7, zset_8, zset_9, zset_10, kd_171, rf_171_0, rf_171_1, rf_171_3, rf_171_4, rf_171_5, rf_171_6, rf_171_7, rf_171_8, rf_171_10, rf_171_13, rf_171_14, rf_171_15, rf_171_16, rf_171_17, rf_171_20, rf_171_21, rf_171_27, rf_171_28, rf_171_29, rf_171_30, rf_171_31, show ((0 : Nat) : Int) - 1 < 0 by omega, show ¬ 0 ≤ ((0 : Nat) : Int) - 1 by omega, if_true, if_false, nrJ, true_or, true_and, rR]
  | m + 1, r, h0, h2, h3, h4, Q => by
    have ih := l_nra hn (X := X) (x2 := x2) m r (by omega) h2 h3 h4 Q
    have e1 : ((m + 1 : Nat) : Int) - 1 = m := by omega
    have b1 := h4 m (by omega) (by omega)
    rw [pg_214_7, e1]
    by_cases c : r.2.2.2.1 m = r.2.2.2.2.2.1 - n + m
    · have ec : nrJ n r.2.2.2.2.2.1 (m + 1) r.2.2.2.1 = nrJ n r.2.2.2.2.2.1 m r.2.2.2.1 := if_pos c
      rw [ec]
      simp (disch := omega) only [wp_iload, wp_aload, wp_istore, wp_astore, wp_iinc, wp_iconst, wp_dup, wp_dup2, wp_pop, wp_iadd, wp_isub, wp_imul, wp_idiv, wp_irem, wp_ineg, wp_iand, wp_ior, wp_ixor, wp_ishl, wp_ishr, wp_getI, wp_putI, wp_getR, wp_goto, wp_goto_w, wq_if_eq, wq_if_ne, wq_if_lt, wq_if_ge, wq_if_gt, wq_if_le, wq_icmp_eq, wq_icmp_ne, wq_icmp_lt, wq_icmp_ge, wq_icmp_gt, wq_icmp_le, wp_max, wp_min, kI_inl, kR_some, kN_inl, kO_some, KT_none, KT_some, List.length_cons, List.length_nil, Nat.reduceAdd, Nat.reduceLT, Nat.reduceLeDiff, Nat.reduceMod, Nat.reduceDiv, true_and, and_true, Int.reduceLE, Int.reduceNeg, Int.reduceLT, Int.cast_ofNat_Int, Nat.zero_le, zI, Int.reduceAdd, Int.reduceSub, Int.reduceMul, not_true_eq_false, not_false_eq_true, false_implies, true_implies, i01_0, i01_1, ite_not, ↓reduceIte, zget_0, zget_1, zget_2, zget_3, zget_4, zget_5, zget_6, zget_7, zget_8, zget_9, zget_10, zset_0, zset_1, zset_2, zset_3, zset_4, zset_5, zset_6, zset_7, zset_8, zset_9, zset_10, kd_171, rf_171_0, rf_171_1, rf_171_3, rf_171_4, rf_171_5, rf_171_6, rf_171_7, rf_171_8, rf_171_10, rf_171_13, rf_171_14, rf_171_15, rf_171_16, rf_171_17, rf_171_20, rf_171_21, rf_171_27, rf_171_28, rf_171_29, rf_171_30, rf_171_31, show ¬ (m : Int) < 0 by omega, if_false, wp_iaload kd_184, rbm_R, rbm_m, rbm_n, h2, c, not_true_eq_false]
      rw [show (m : Int) + -1 = (m : Int) - 1 by omega]
      repeat (refine (and_iff_right (by omega)).trans ?_)
      exact ih
    · have ec : nrJ n r.2.2.2.2.2.1 (m + 1) r.2.2.2.1 = (1, lp nrf (n - ((m : Nat) + 1)).toNat ((m : Nat) + 1) (ups r.2.2.2.1 (m : Nat) (r.2.2.2.1 (m : Nat) + 1))) := if_neg c
      have hl := l_nrb (d := d) (X := X) hn (x1 := .inl (m : Int)) (n - ((m : Nat) + 1)).toNat ((m : Nat) + 1) (rR r (ups r.2.2.2.1 (m : Nat) (r.2.2.2.1 (m : Nat) + 1))) (by omega) (by omega) h2 (by
        dsimp only
        rw [show (m : Int) + 1 - 1 = m by omega, ups_at]
        omega) Q
      rw [ec]
      simp (disch := omega) only [pg_214_37, pg_214_43, wp_iload, wp_aload, wp_istore, wp_astore, wp_iinc, wp_iconst, wp_dup, wp_dup2, wp_pop, wp_iadd, wp_isub, wp_imul, wp_idiv, wp_irem, wp_ineg, wp_iand, wp_ior, wp_ixor, wp_ishl, wp_ishr, wp_getI, wp_putI, wp_getR, wp_goto, wp_goto_w, wq_if_eq, wq_if_ne, wq_if_lt, wq_if_ge, wq_if_gt, wq_if_le, wq_icmp_eq, wq_icmp_ne, wq_icmp_lt, wq_icmp_ge, wq_icmp_gt, wq_icmp_le, wp_max, wp_min, kI_inl, kR_some, kN_inl, kO_some, KT_none, KT_some, List.length_cons, List.length_nil, Nat.reduceAdd, Nat.reduceLT, Nat.reduceLeDiff, Nat.reduceMod, Nat.reduceDiv, true_and, and_true, Int.reduceLE, Int.reduceNeg, Int.reduceLT, Int.cast_ofNat_Int, Nat.zero_le, zI, Int.reduceAdd, Int.reduceSub, Int.reduceMul, not_true_eq_false, not_false_eq_true, false_implies, true_implies, i01_0, i01_1, ite_not, ↓reduceIte, zget_0, zget_1, zget_2, zget_3, zget_4, zget_5, zget_6, zget_7, zget_8, zget_9, zget_10, zset_0, zset_1, zset_2, zset_3, zset_4, zset_5, zset_6, zset_7, zset_8, zset_9, zset_10, kd_171, rf_171_0, rf_171_1, rf_171_3, rf_171_4, rf_171_5, rf_171_6, rf_171_7, rf_171_8, rf_171_10, rf_171_13, rf_171_14, rf_171_15, rf_171_16, rf_171_17, rf_171_20, rf_171_21, rf_171_27, rf_171_28, rf_171_29, rf_171_30, rf_171_31, show ¬ (m : Int) < 0 by omega, if_false, wp_iaload kd_184, wp_iastore kd_184, zu_setc, rbm_A, rbm_m, rbm_n, rbm_sm, rbm_sn, rbm_T, rbm_W, rbm_M, rbm_R, rbm_V, rbm_sT, rbm_sW, rbm_sM, rbm_sR, rbm_sV, h2, c, not_false_eq_true, if_true, show 0 ≤ (m : Int) by omega]
      repeat (refine (and_iff_right (by omega)).trans ?_)
      simp only [rR, h2] at hl ⊢
      exact hl
theorem c_nextRowM {X : zM} {r : zRb} (hn : 0 ≤ r.2.2.2.2.2.2 ∧ r.2.2.2.2.2.2 ≤ 3) (hM : -1000 ≤ r.2.2.2.2.2.1 ∧ r.2.2.2.2.2.1 ≤ 1000) (hR : ∀ j : Int, 0 ≤ j → j < 3 → 0 ≤ r.2.2.2.1 j ∧ r.2.2.2.1 j ≤ 100) : CallP d 214 [.inr (some 171)] (rbm X r) Q ↔ Q (some (.inl (nrJ r.2.2.2.2.2.2 r.2.2.2.2.2.1 r.2.2.2.2.2.2.toNat r.2.2.2.1).1)) (rbm X (rR r (nrJ r.2.2.2.2.2.2 r.2.2.2.2.2.1 r.2.2.2.2.2.2.toNat r.2.2.2.1).2)) := by
  have hl := l_nra (d := d) (X := X) hn (x2 := .inr none) r.2.2.2.2.2.2.toNat r (by omega) rfl hM hR Q
  rw [show ((r.2.2.2.2.2.2.toNat : Nat) : Int) = r.2.2.2.2.2.2 by omega] at hl
  simp (disch := omega) only [en_214, pg_214_0, wp_iload, wp_aload, wp_istore, wp_astore, wp_iinc, wp_iconst, wp_dup, wp_dup2, wp_pop, wp_iadd, wp_isub, wp_imul, wp_idiv, wp_irem, wp_ineg, wp_iand, wp_ior, wp_ixor, wp_ishl, wp_ishr, wp_getI, wp_putI, wp_getR, wp_goto, wp_goto_w, wq_if_eq, wq_if_ne, wq_if_lt, wq_if_ge, wq_if_gt, wq_if_le, wq_icmp_eq, wq_icmp_ne, wq_icmp_lt, wq_icmp_ge, wq_icmp_gt, wq_icmp_le, wp_max, wp_min, kI_inl, kR_some, kN_inl, kO_some, KT_none, KT_some, List.length_cons, List.length_nil, Nat.reduceAdd, Nat.reduceLT, Nat.reduceLeDiff, Nat.reduceMod, Nat.reduceDiv, true_and, and_true, Int.reduceLE, Int.reduceNeg, Int.reduceLT, Int.cast_ofNat_Int, Nat.zero_le, zI, Int.reduceAdd, Int.reduceSub, Int.reduceMul, not_true_eq_false, not_false_eq_true, false_implies, true_implies, i01_0, i01_1, ite_not, ↓reduceIte, zget_0, zget_1, zget_2, zget_3, zget_4, zget_5, zget_6, zget_7, zget_8, zget_9, zget_10, zset_0, zset_1, zset_2, zset_3, zset_4, zset_5, zset_6, zset_7, zset_8, zset_9, zset_10, kd_171, rf_171_0, rf_171_1, rf_171_3, rf_171_4, rf_171_5, rf_171_6, rf_171_7, rf_171_8, rf_171_10, rf_171_13, rf_171_14, rf_171_15, rf_171_16, rf_171_17, rf_171_20, rf_171_21, rf_171_27, rf_171_28, rf_171_29, rf_171_30, rf_171_31, rbm_n]
  repeat (refine (and_iff_right (by omega)).trans ?_)
  exact hl
end MR1
