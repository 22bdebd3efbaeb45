/-! THE REFERENCE: needs -/
section MN
variable {d : Nat} {im : zM} {Q : Option zV → zM → Prop} {a b v dv kd sl i j k f e bu t : Int}
abbrev zLy : Type := (Int → Int) × (Int → Int) × (Int → Int) × (Int → Int) × (Int → Int) × (Int → Int) × Int
def lym (X : zM) (r : zLy) : zM := setc (setc (setc (setc (setc (setc (setc X 174 r.1) 175 r.2.1) 176 r.2.2.1) 177 r.2.2.2.1) 178 r.2.2.2.2.1) 179 r.2.2.2.2.2.1) 171 (ups (X 171) 9 r.2.2.2.2.2.2)
theorem lym_o {X : zM} {r : zLy} {p : Nat} (h : p < 171 ∨ (171 < p ∧ p < 174) ∨ 179 < p) : lym X r p = X p := by
  unfold lym
  rw [setc_ne _ _ (by omega), setc_ne _ _ (by omega), setc_ne _ _ (by omega), setc_ne _ _ (by omega), setc_ne _ _ (by omega), setc_ne _ _ (by omega), setc_ne _ _ (by omega)]
theorem lym_A {X : zM} {r : zLy} : lym X r 172 = X 172 := lym_o (by omega)
theorem lym_m {X : zM} {r : zLy} : lym X r 171 9 = r.2.2.2.2.2.2 := by
  unfold lym
  rw [setc_at, ups_at]
theorem lym_f {X : zM} {r : zLy} (h : f ≠ 9) : lym X r 171 f = X 171 f := by
  unfold lym
  rw [setc_at, ups_ne _ _ h]
theorem lym_sm {X : zM} {r : zLy} : setc (lym X r) 171 (ups (lym X r 171) 9 v) = lym X (r.1, r.2.1, r.2.2.1, r.2.2.2.1, r.2.2.2.2.1, r.2.2.2.2.2.1, v) := by
  unfold lym
  rw [setc_at, setc_setc, ups_ups]
theorem lym_N {X : zM} {r : zLy} : lym X r 174 = r.1 := by
  unfold lym
  rw [setc_ne _ _ (by omega), setc_ne _ _ (by omega), setc_ne _ _ (by omega), setc_ne _ _ (by omega), setc_ne _ _ (by omega), setc_ne _ _ (by omega), setc_at]
theorem lym_sN {X : zM} {r : zLy} {c : Int → Int} : setc (lym X r) 174 c = lym X (c, r.2.1, r.2.2.1, r.2.2.2.1, r.2.2.2.2.1, r.2.2.2.2.2.1, r.2.2.2.2.2.2) := by
  unfold lym
  rw [setc_comm _ _ _ (show (171 : Nat) ≠ 174 by omega), setc_comm _ _ _ (show (179 : Nat) ≠ 174 by omega), setc_comm _ _ _ (show (178 : Nat) ≠ 174 by omega), setc_comm _ _ _ (show (177 : Nat) ≠ 174 by omega), setc_comm _ _ _ (show (176 : Nat) ≠ 174 by omega), setc_comm _ _ _ (show (175 : Nat) ≠ 174 by omega), setc_setc]
theorem lym_L {X : zM} {r : zLy} : lym X r 175 = r.2.1 := by
  unfold lym
  rw [setc_ne _ _ (by omega), setc_ne _ _ (by omega), setc_ne _ _ (by omega), setc_ne _ _ (by omega), setc_ne _ _ (by omega), setc_at]
theorem lym_sL {X : zM} {r : zLy} {c : Int → Int} : setc (lym X r) 175 c = lym X (r.1, c, r.2.2.1, r.2.2.2.1, r.2.2.2.2.1, r.2.2.2.2.2.1, r.2.2.2.2.2.2) := by
  unfold lym
  rw [setc_comm _ _ _ (show (171 : Nat) ≠ 175 by omega), setc_comm _ _ _ (show (179 : Nat) ≠ 175 by omega), setc_comm _ _ _ (show (178 : Nat) ≠ 175 by omega), setc_comm _ _ _ (show (177 : Nat) ≠ 175 by omega), setc_comm _ _ _ (show (176 : Nat) ≠ 175 by omega), setc_setc]
theorem lym_D {X : zM} {r : zLy} : lym X r 176 = r.2.2.1 := by
  unfold lym
  rw [setc_ne _ _ (by omega), setc_ne _ _ (by omega), setc_ne _ _ (by omega), setc_ne _ _ (by omega), setc_at]
theorem lym_sD {X : zM} {r : zLy} {c : Int → Int} : setc (lym X r) 176 c = lym X (r.1, r.2.1, c, r.2.2.2.1, r.2.2.2.2.1, r.2.2.2.2.2.1, r.2.2.2.2.2.2) := by
  unfold lym
  rw [setc_comm _ _ _ (show (171 : Nat) ≠ 176 by omega), setc_comm _ _ _ (show (179 : Nat) ≠ 176 by omega), setc_comm _ _ _ (show (178 : Nat) ≠ 176 by omega), setc_comm _ _ _ (show (177 : Nat) ≠ 176 by omega), setc_setc]
theorem lym_S {X : zM} {r : zLy} : lym X r 177 = r.2.2.2.1 := by
  unfold lym
  rw [setc_ne _ _ (by omega), setc_ne _ _ (by omega), setc_ne _ _ (by omega), setc_at]
theorem lym_sS {X : zM} {r : zLy} {c : Int → Int} : setc (lym X r) 177 c = lym X (r.1, r.2.1, r.2.2.1, c, r.2.2.2.2.1, r.2.2.2.2.2.1, r.2.2.2.2.2.2) := by
  unfold lym
  rw [setc_comm _ _ _ (show (171 : Nat) ≠ 177 by omega), setc_comm _ _ _ (show (179 : Nat) ≠ 177 by omega), setc_comm _ _ _ (show (178 : Nat) ≠ 177 by omega), setc_setc]
theorem lym_P {X : zM} {r : zLy} : lym X r 178 = r.2.2.2.2.1 := by
  unfold lym
  rw [setc_ne _ _ (by omega), setc_ne _ _ (by omega), setc_at]
theorem lym_sP {X : zM} {r : zLy} {c : Int → Int} : setc (lym X r) 178 c = lym X (r.1, r.2.1, r.2.2.1, r.2.2.2.1, c, r.2.2.2.2.2.1, r.2.2.2.2.2.2) := by
  unfold lym
  rw [setc_comm _ _ _ (show (171 : Nat) ≠ 178 by omega), setc_comm _ _ _ (show (179 : Nat) ≠ 178 by omega), setc_setc]
theorem lym_G {X : zM} {r : zLy} : lym X r 179 = r.2.2.2.2.2.1 := by
  unfold lym
  rw [setc_ne _ _ (by omega), setc_at]
theorem lym_sG {X : zM} {r : zLy} {c : Int → Int} : setc (lym X r) 179 c = lym X (r.1, r.2.1, r.2.2.1, r.2.2.2.1, r.2.2.2.2.1, c, r.2.2.2.2.2.2) := by
  unfold lym
  rw [setc_comm _ _ _ (show (171 : Nat) ≠ 179 by omega), setc_setc]
def lyg (X : zM) : zLy := (X 174, X 175, X 176, X 177, X 178, X 179, X 171 9)
theorem lym_self (X : zM) : lym X (lyg X) = X := by
  unfold lym lyg
  dsimp only
  rw [setc_self, setc_self, setc_self, setc_self, setc_self, setc_self, ups_self, setc_self]
abbrev zGa : Type := (Int → Int) × (Int → Int) × (Int → Int) × Int
abbrev gG (r : zLy) : zGa := (r.2.2.2.1, r.2.2.2.2.1, r.2.2.2.2.2.1, r.2.2.2.2.2.2)
abbrev rG (r : zLy) (y : zGa) : zLy := (r.1, r.2.1, r.2.2.1, y.1, y.2.1, y.2.2.1, y.2.2.2)
def gaA (A : Int → Int) (dv k : Int) (a : Int) (y : zGa) : zGa := if A (23 * dv + (6 + a)) = k then (ups y.1 (80 * k + (3 * dv + a)) (A (23 * dv + (9 + a))), ups y.2.1 (80 * k + (3 * dv + a)) (A (23 * dv + (9 + a))), ups y.2.2.1 y.2.2.2 (3 * dv + a), y.2.2.2 + 1) else y
def gaI (A : Int → Int) (dv k : Int) (y : zGa) : zGa := lp (gaA A dv k) (A (23 * dv + 5)).toNat 0 y
def gaD (A : Int → Int) (on : Int → Bool) (k bu : Int) (dv : Int) (y : zGa) : zGa := if on dv = true ∧ buM A dv = bu then (if A (23 * dv + 1) = 1 ∧ (gaI A dv k y).1 (80 * k + (60 + dv)) ≠ 0 then ((gaI A dv k y).1, (gaI A dv k y).2.1, ups (gaI A dv k y).2.2.1 (gaI A dv k y).2.2.2 (60 + dv), (gaI A dv k y).2.2.2 + 1) else gaI A dv k y) else y
theorem gaA_mono {A : Int → Int} : ∀ (n : Nat) (a : Int) (y : zGa), y.2.2.2 ≤ (lp (gaA A dv k) n a y).2.2.2
  | 0, a, y => Int.le_refl _
  | n + 1, a, y => by
    have := gaA_mono (A := A) n (a + 1) (gaA A dv k a y)
    have e : y.2.2.2 ≤ (gaA A dv k a y).2.2.2 := by
      unfold gaA
      split
      · dsimp only
        omega
      · exact Int.le_refl _
    simp only [lp]
    omega
theorem gaD_mono {A : Int → Int} {on : Int → Bool} : ∀ (n : Nat) (e : Int) (y : zGa), y.2.2.2 ≤ (lp (gaD A on k bu) n e y).2.2.2
  | 0, e, y => Int.le_refl _
  | n + 1, e, y => by
    have := gaD_mono (A := A) (on := on) n (e + 1) (gaD A on k bu e y)
    have h1 := gaA_mono (A := A) (dv := e) (k := k) (A (23 * e + 5)).toNat 0 y
    have e2 : y.2.2.2 ≤ (gaD A on k bu e y).2.2.2 := by
      unfold gaD gaI
      split
      · split
        · dsimp only
          omega
        · exact h1
      · exact Int.le_refl _
    simp only [lp]
    omega
theorem l_gaA {X : zM} {A : Int → Int} (hX : X 172 = A) (hg : MG A) (hd : 0 ≤ dv ∧ dv < 20) (hk : 0 ≤ k ∧ k ≤ 1) {x3 : zV} : ∀ (n : Nat) (a : Int) (r : zLy), 0 ≤ a → a + n = ((A (23 * dv + 5)).toNat : Nat) → 0 ≤ r.2.2.2.2.2.2 → (lp (gaA A dv k) n a (gG r)).2.2.2 ≤ 32 → ∃ x5, ∀ Q, wp none (d + 2) 179 (zpg 179 40) [.inr (some 171), .inl k, .inl bu, x3, .inl dv, .inl a] [] (lym X r) Q ↔ wp none (d + 2) 179 (zpg 179 156) [.inr (some 171), .inl k, .inl bu, x3, .inl dv, x5] [] (lym X (rG r (lp (gaA A dv k) n a (gG r)))) Q
  | 0, a, r, h0, h1, h2, h3 => by
    have hm := MG_many hg hd
    refine ⟨.inl a, fun Q => ?_⟩
    conv => lhs; rw [pg_179_40]
    simp (disch := omega) only [cw_142, wp_iload, wp_aload, wp_istore, wp_astore, wp_iinc, wp_iconst, wp_dup, wp_dup2, wp_pop, wp_iadd, wp_isub, wp_imul, wp_idiv, wp_irem, wp_ineg, wp_iand, wp_ior, wp_ixor, wp_ishl, wp_ishr, wp_getI, wp_putI, wp_getR, wp_goto, wp_goto_w, wq_if_eq, wq_if_ne, wq_if_lt, wq_if_ge, wq_if_gt, wq_if_le, wq_icmp_eq, wq_icmp_ne, wq_icmp_lt, wq_icmp_ge, wq_icmp_gt, wq_icmp_le, wp_max, wp_min, kI_inl, kR_some, kN_inl, kO_some, KT_none, KT_some, List.length_cons, List.length_nil, Nat.reduceAdd, Nat.reduceLT, Nat.reduceLeDiff, Nat.reduceMod, Nat.reduceDiv, true_and, and_true, Int.reduceLE, Int.reduceNeg, Int.reduceLT, Int.cast_ofNat_Int, Nat.zero_le, zI, Int.reduceAdd, Int.reduceSub, Int.reduceMul, not_true_eq_false, not_false_eq_true, false_implies, true_implies, i01_0, i01_1, ite_not, ↓reduceIte, zget_0, zget_1, zget_2, zget_3, zget_4, zget_5, zget_6, zget_7, zget_8, zget_9, zget_10, zset_0, zset_1, zset_2, zset_3, zset_4, zset_5, zset_6, zset_7, zset_8, zset_9, zset_10, kd_171, rf_171_0, rf_171_1, rf_171_3, rf_171_4, rf_171_5, rf_171_6, rf_171_7, rf_171_8, rf_171_10, rf_171_13, rf_171_14, rf_171_15, rf_171_16, rf_171_17, rf_171_20, rf_171_21, rf_171_27, rf_171_28, rf_171_29, rf_171_30, rf_171_31, c_of, lym_A, hX, show A (23 * dv + 5) ≤ a by omega, if_true, lp, rG, gG]
  | n + 1, a, r, h0, h1, h2, h3 => by
    have hm := MG_many hg hd
    by_cases c : A (23 * dv + (6 + a)) = k
    · have ec : gaA A dv k a (gG r) = (ups r.2.2.2.1 (80 * k + (3 * dv + a)) (A (23 * dv + (9 + a))), ups r.2.2.2.2.1 (80 * k + (3 * dv + a)) (A (23 * dv + (9 + a))), ups r.2.2.2.2.2.1 r.2.2.2.2.2.2 (3 * dv + a), r.2.2.2.2.2.2 + 1) := if_pos c
      simp only [lp, ec] at h3
      have hmo := gaA_mono (A := A) (dv := dv) (k := k) n (a + 1) (ups r.2.2.2.1 (80 * k + (3 * dv + a)) (A (23 * dv + (9 + a))), ups r.2.2.2.2.1 (80 * k + (3 * dv + a)) (A (23 * dv + (9 + a))), ups r.2.2.2.2.2.1 r.2.2.2.2.2.2 (3 * dv + a), r.2.2.2.2.2.2 + 1)
      obtain ⟨x5, ih⟩ := l_gaA hX hg hd hk (x3 := x3) n (a + 1) (rG r (ups r.2.2.2.1 (80 * k + (3 * dv + a)) (A (23 * dv + (9 + a))), ups r.2.2.2.2.1 (80 * k + (3 * dv + a)) (A (23 * dv + (9 + a))), ups r.2.2.2.2.2.1 r.2.2.2.2.2.2 (3 * dv + a), r.2.2.2.2.2.2 + 1)) (by omega) (by omega) (by dsimp only; omega) h3
      refine ⟨x5, fun Q => ?_⟩
      simp only [lp, ec]
      rw [← ih Q]
      dsimp only at hmo
      conv => lhs; rw [pg_179_40]
      simp (disch := omega) only [cw_142, cw_173, pg_179_70, wp_iload, wp_aload, wp_istore, wp_astore, wp_iinc, wp_iconst, wp_dup, wp_dup2, wp_pop, wp_iadd, wp_isub, wp_imul, wp_idiv, wp_irem, wp_ineg, wp_iand, wp_ior, wp_ixor, wp_ishl, wp_ishr, wp_getI, wp_putI, wp_getR, wp_goto, wp_goto_w, wq_if_eq, wq_if_ne, wq_if_lt, wq_if_ge, wq_if_gt, wq_if_le, wq_icmp_eq, wq_icmp_ne, wq_icmp_lt, wq_icmp_ge, wq_icmp_gt, wq_icmp_le, wp_max, wp_min, kI_inl, kR_some, kN_inl, kO_some, KT_none, KT_some, List.length_cons, List.length_nil, Nat.reduceAdd, Nat.reduceLT, Nat.reduceLeDiff, Nat.reduceMod, Nat.reduceDiv, true_and, and_true, Int.reduceLE, Int.reduceNeg, Int.reduceLT, Int.cast_ofNat_Int, Nat.zero_le, zI, Int.reduceAdd, Int.reduceSub, Int.reduceMul, not_true_eq_false, not_false_eq_true, false_implies, true_implies, i01_0, i01_1, ite_not, ↓reduceIte, zget_0, zget_1, zget_2, zget_3, zget_4, zget_5, zget_6, zget_7, zget_8, zget_9, zget_10, zset_0, zset_1, zset_2, zset_3, zset_4, zset_5, zset_6, zset_7, zset_8, zset_9, zset_10, kd_171, rf_171_0, rf_171_1, rf_171_3, rf_171_4, rf_171_5, rf_171_6, rf_171_7, rf_171_8, rf_171_10, rf_171_13, rf_171_14, rf_171_15, rf_171_16, rf_171_17, rf_171_20, rf_171_21, rf_171_27, rf_171_28, rf_171_29, rf_171_30, rf_171_31, c_of, c_thingAt, lym_A, hX, show ¬ A (23 * dv + 5) ≤ a by omega, if_false, c, if_true, wp_iaload kd_174, wp_iaload kd_175, wp_iaload kd_176, wp_iaload kd_177, wp_iaload kd_178, wp_iaload kd_179, wp_iastore kd_174, wp_iastore kd_175, wp_iastore kd_176, wp_iastore kd_177, wp_iastore kd_178, wp_iastore kd_179, zu_setc, lym_A, lym_m, lym_sm, lym_N, lym_L, lym_D, lym_S, lym_P, lym_G, lym_sN, lym_sL, lym_sD, lym_sS, lym_sP, lym_sG]
      try (repeat (refine (and_iff_right (by omega)).trans ?_))
      try exact Iff.rfl
    · have ec : gaA A dv k a (gG r) = gG r := if_neg c
      simp only [lp, ec] at h3
      obtain ⟨x5, ih⟩ := l_gaA hX hg hd hk (x3 := x3) n (a + 1) r (by omega) (by omega) h2 h3
      refine ⟨x5, fun Q => ?_⟩
      simp only [lp, ec]
      rw [← ih Q]
      conv => lhs; rw [pg_179_40]
      simp (disch := omega) only [cw_142, pg_179_150, wp_iload, wp_aload, wp_istore, wp_astore, wp_iinc, wp_iconst, wp_dup, wp_dup2, wp_pop, wp_iadd, wp_isub, wp_imul, wp_idiv, wp_irem, wp_ineg, wp_iand, wp_ior, wp_ixor, wp_ishl, wp_ishr, wp_getI, wp_putI, wp_getR, wp_goto, wp_goto_w, wq_if_eq, wq_if_ne, wq_if_lt, wq_if_ge, wq_if_gt, wq_if_le, wq_icmp_eq, wq_icmp_ne, wq_icmp_lt, wq_icmp_ge, wq_icmp_gt, wq_icmp_le, wp_max, wp_min, kI_inl, kR_some, kN_inl, kO_some, KT_none, KT_some, List.length_cons, List.length_nil, Nat.reduceAdd, Nat.reduceLT, Nat.reduceLeDiff, Nat.reduceMod, Nat.reduceDiv, true_and, and_true, Int.reduceLE, Int.reduceNeg, Int.reduceLT, Int.cast_ofNat_Int, Nat.zero_le, zI, Int.reduceAdd, Int.reduceSub, Int.reduceMul, not_true_eq_false, not_false_eq_true, false_implies, true_implies, i01_0, i01_1, ite_not, ↓reduceIte, zget_0, zget_1, zget_2, zget_3, zget_4, zget_5, zget_6, zget_7, zget_8, zget_9, zget_10, zset_0, zset_1, zset_2, zset_3, zset_4, zset_5, zset_6, zset_7, zset_8, zset_9, zset_10, kd_171, rf_171_0, rf_171_1, rf_171_3, rf_171_4, rf_171_5, rf_171_6, rf_171_7, rf_171_8, rf_171_10, rf_171_13, rf_171_14, rf_171_15, rf_171_16, rf_171_17, rf_171_20, rf_171_21, rf_171_27, rf_171_28, rf_171_29, rf_171_30, rf_171_31, c_of, lym_A, hX, show ¬ A (23 * dv + 5) ≤ a by omega, if_false, c]
      try (repeat (refine (and_iff_right (by omega)).trans ?_))
      try exact Iff.rfl
theorem l_gaD {X : zM} {A : Int → Int} (hX : X 172 = A) (hg : MG A) (hk : 0 ≤ k ∧ k ≤ 1) {on : Int → Bool} : ∀ (n : Nat) (e : Int) (r : zLy) (x5 : zV), 0 ≤ e → e + n = 20 → 0 ≤ r.2.2.2.2.2.2 → (lp (gaD A on k bu) n e (gG r)).2.2.2 ≤ 32 → ∀ Q, wp none (d + 2) 179 (zpg 179 8) [.inr (some 171), .inl k, .inl bu, .inl (bs on), .inl e, x5] [] (lym X r) Q ↔ Q none (lym X (rG r (lp (gaD A on k bu) n e (gG r))))
  | 0, e, r, x5, h0, h1, h2, h3, Q => by
    rw [pg_179_8]
    simp (disch := omega) only [wp_return rk_179, pg_179_37, pg_179_70, pg_179_150, pg_179_156, pg_179_187, pg_179_211, pg_179_217, cw_142, cw_149, cw_173, cw_175, wp_iload, wp_aload, wp_istore, wp_astore, wp_iinc, wp_iconst, wp_dup, wp_dup2, wp_pop, wp_iadd, wp_isub, wp_imul, wp_idiv, wp_irem, wp_ineg, wp_iand, wp_ior, wp_ixor, wp_ishl, wp_ishr, wp_getI, wp_putI, wp_getR, wp_goto, wp_goto_w, wq_if_eq, wq_if_ne, wq_if_lt, wq_if_ge, wq_if_gt, wq_if_le, wq_icmp_eq, wq_icmp_ne, wq_icmp_lt, wq_icmp_ge, wq_icmp_gt, wq_icmp_le, wp_max, wp_min, kI_inl, kR_some, kN_inl, kO_some, KT_none, KT_some, List.length_cons, List.length_nil, Nat.reduceAdd, Nat.reduceLT, Nat.reduceLeDiff, Nat.reduceMod, Nat.reduceDiv, true_and, and_true, Int.reduceLE, Int.reduceNeg, Int.reduceLT, Int.cast_ofNat_Int, Nat.zero_le, zI, Int.reduceAdd, Int.reduceSub, Int.reduceMul, not_true_eq_false, not_false_eq_true, false_implies, true_implies, i01_0, i01_1, ite_not, ↓reduceIte, zget_0, zget_1, zget_2, zget_3, zget_4, zget_5, zget_6, zget_7, zget_8, zget_9, zget_10, zset_0, zset_1, zset_2, zset_3, zset_4, zset_5, zset_6, zset_7, zset_8, zset_9, zset_10, show 20 ≤ e by omega, if_true, lp, rG, gG]
  | n + 1, e, r, x5, h0, h1, h2, h3, Q => by
    have hd : 0 ≤ e ∧ e < 20 := by omega
    have hm := MG_many hg hd
    have hbo := fun Q => c_busOf (d := d) (im := lym X r) (dv := e) (Q := Q) hd
    rw [lym_A, hX] at hbo
    simp only [lp] at h3 ⊢
    have hmo := gaD_mono (A := A) (on := on) (k := k) (bu := bu) n (e + 1) (gaD A on k bu e (gG r))
    by_cases c : on e = true ∧ buM A e = bu
    · have hma := gaA_mono (A := A) (dv := e) (k := k) (A (23 * e + 5)).toNat 0 (gG r)
      have hgi : gaI A e k (gG r) = lp (gaA A e k) (A (23 * e + 5)).toNat 0 (gG r) := rfl
      have hle : (gaI A e k (gG r)).2.2.2 ≤ (gaD A on k bu e (gG r)).2.2.2 := by
        unfold gaD
        rw [if_pos c]
        split
        · dsimp only
          omega
        · exact Int.le_refl _
      obtain ⟨x5', hA⟩ := l_gaA (d := d) (bu := bu) hX hg hd hk (x3 := .inl (bs on)) (A (23 * e + 5)).toNat 0 r (by omega) (by omega) h2 (by rw [← hgi]; omega)
      rw [← hgi] at hA hma
      have es : wp none (d + 2) 179 (zpg 179 8) [.inr (some 171), .inl k, .inl bu, .inl (bs on), .inl e, x5] [] (lym X r) Q ↔ wp none (d + 2) 179 (zpg 179 156) [.inr (some 171), .inl k, .inl bu, .inl (bs on), .inl e, x5'] [] (lym X (rG r (gaI A e k (gG r)))) Q := by
        rw [← hA Q]
        conv => lhs; rw [pg_179_8]
        simp (disch := omega) only [cw_149, cw_175, pg_179_37, wp_iload, wp_aload, wp_istore, wp_astore, wp_iinc, wp_iconst, wp_dup, wp_dup2, wp_pop, wp_iadd, wp_isub, wp_imul, wp_idiv, wp_irem, wp_ineg, wp_iand, wp_ior, wp_ixor, wp_ishl, wp_ishr, wp_getI, wp_putI, wp_getR, wp_goto, wp_goto_w, wq_if_eq, wq_if_ne, wq_if_lt, wq_if_ge, wq_if_gt, wq_if_le, wq_icmp_eq, wq_icmp_ne, wq_icmp_lt, wq_icmp_ge, wq_icmp_gt, wq_icmp_le, wp_max, wp_min, kI_inl, kR_some, kN_inl, kO_some, KT_none, KT_some, List.length_cons, List.length_nil, Nat.reduceAdd, Nat.reduceLT, Nat.reduceLeDiff, Nat.reduceMod, Nat.reduceDiv, true_and, and_true, Int.reduceLE, Int.reduceNeg, Int.reduceLT, Int.cast_ofNat_Int, Nat.zero_le, zI, Int.reduceAdd, Int.reduceSub, Int.reduceMul, not_true_eq_false, not_false_eq_true, false_implies, true_implies, i01_0, i01_1, ite_not, ↓reduceIte, zget_0, zget_1, zget_2, zget_3, zget_4, zget_5, zget_6, zget_7, zget_8, zget_9, zget_10, zset_0, zset_1, zset_2, zset_3, zset_4, zset_5, zset_6, zset_7, zset_8, zset_9, zset_10, kd_171, rf_171_0, rf_171_1, rf_171_3, rf_171_4, rf_171_5, rf_171_6, rf_171_7, rf_171_8, rf_171_10, rf_171_13, rf_171_14, rf_171_15, rf_171_16, rf_171_17, rf_171_20, rf_171_21, rf_171_27, rf_171_28, rf_171_29, rf_171_30, rf_171_31, show ¬ 20 ≤ e by omega, if_false, c_bit, if_pos c.1, hbo, c.2, if_true]
        try simp only [show ¬ (1 : Int) = 0 by omega, if_false]
      rw [es]
      have hof := fun Q => c_of (d := d + 1) (im := lym X (rG r (gaI A e k (gG r)))) (dv := e) (f := 1) (Q := Q) hd (by omega)
      rw [lym_A, hX] at hof
      dsimp only at hma
      by_cases c2 : A (23 * e + 1) = 1 ∧ (gaI A e k (gG r)).1 (80 * k + (60 + e)) ≠ 0
      · have ec : gaD A on k bu e (gG r) = ((gaI A e k (gG r)).1, (gaI A e k (gG r)).2.1, ups (gaI A e k (gG r)).2.2.1 (gaI A e k (gG r)).2.2.2 (60 + e), (gaI A e k (gG r)).2.2.2 + 1) := by
          unfold gaD
          rw [if_pos c, if_pos c2]
        rw [ec] at h3 hmo ⊢
        dsimp only at hmo
        have ih := l_gaD hX hg hk (on := on) n (e + 1) (rG r ((gaI A e k (gG r)).1, (gaI A e k (gG r)).2.1, ups (gaI A e k (gG r)).2.2.1 (gaI A e k (gG r)).2.2.2 (60 + e), (gaI A e k (gG r)).2.2.2 + 1)) x5' (by omega) (by omega) (by dsimp only; omega) h3 Q
        rw [← ih]
        conv => lhs; rw [pg_179_156]
        simp (disch := omega) only [cw_142, cw_173, pg_179_187, wp_iload, wp_aload, wp_istore, wp_astore, wp_iinc, wp_iconst, wp_dup, wp_dup2, wp_pop, wp_iadd, wp_isub, wp_imul, wp_idiv, wp_irem, wp_ineg, wp_iand, wp_ior, wp_ixor, wp_ishl, wp_ishr, wp_getI, wp_putI, wp_getR, wp_goto, wp_goto_w, wq_if_eq, wq_if_ne, wq_if_lt, wq_if_ge, wq_if_gt, wq_if_le, wq_icmp_eq, wq_icmp_ne, wq_icmp_lt, wq_icmp_ge, wq_icmp_gt, wq_icmp_le, wp_max, wp_min, kI_inl, kR_some, kN_inl, kO_some, KT_none, KT_some, List.length_cons, List.length_nil, Nat.reduceAdd, Nat.reduceLT, Nat.reduceLeDiff, Nat.reduceMod, Nat.reduceDiv, true_and, and_true, Int.reduceLE, Int.reduceNeg, Int.reduceLT, Int.cast_ofNat_Int, Nat.zero_le, zI, Int.reduceAdd, Int.reduceSub, Int.reduceMul, not_true_eq_false, not_false_eq_true, false_implies, true_implies, i01_0, i01_1, ite_not, ↓reduceIte, zget_0, zget_1, zget_2, zget_3, zget_4, zget_5, zget_6, zget_7, zget_8, zget_9, zget_10, zset_0, zset_1, zset_2, zset_3, zset_4, zset_5, zset_6, zset_7, zset_8, zset_9, zset_10, kd_171, rf_171_0, rf_171_1, rf_171_3, rf_171_4, rf_171_5, rf_171_6, rf_171_7, rf_171_8, rf_171_10, rf_171_13, rf_171_14, rf_171_15, rf_171_16, rf_171_17, rf_171_20, rf_171_21, rf_171_27, rf_171_28, rf_171_29, rf_171_30, rf_171_31, hof, c2.1, not_true_eq_false, if_false, c_thingAt, wp_iaload kd_174, wp_iaload kd_175, wp_iaload kd_176, wp_iaload kd_177, wp_iaload kd_178, wp_iaload kd_179, wp_iastore kd_174, wp_iastore kd_175, wp_iastore kd_176, wp_iastore kd_177, wp_iastore kd_178, wp_iastore kd_179, zu_setc, lym_A, lym_m, lym_sm, lym_N, lym_L, lym_D, lym_S, lym_P, lym_G, lym_sN, lym_sL, lym_sD, lym_sS, lym_sP, lym_sG, c2.2, not_false_eq_true, if_true]
        try (repeat (refine (and_iff_right (by omega)).trans ?_))
        try exact Iff.rfl
      · have ec : gaD A on k bu e (gG r) = gaI A e k (gG r) := by
          unfold gaD
          rw [if_pos c, if_neg c2]
        rw [ec] at h3 hmo ⊢
        have ih := l_gaD hX hg hk (on := on) n (e + 1) (rG r (gaI A e k (gG r))) x5' (by omega) (by omega) (by dsimp only; omega) h3 Q
        rw [← ih]
        conv => lhs; rw [pg_179_156]
        by_cases c3 : A (23 * e + 1) = 1
        · have c4 : (gaI A e k (gG r)).1 (80 * k + (60 + e)) = 0 := Decidable.byContradiction fun q => c2 ⟨c3, q⟩
          simp (disch := omega) only [cw_142, cw_173, pg_179_211, wp_iload, wp_aload, wp_istore, wp_astore, wp_iinc, wp_iconst, wp_dup, wp_dup2, wp_pop, wp_iadd, wp_isub, wp_imul, wp_idiv, wp_irem, wp_ineg, wp_iand, wp_ior, wp_ixor, wp_ishl, wp_ishr, wp_getI, wp_putI, wp_getR, wp_goto, wp_goto_w, wq_if_eq, wq_if_ne, wq_if_lt, wq_if_ge, wq_if_gt, wq_if_le, wq_icmp_eq, wq_icmp_ne, wq_icmp_lt, wq_icmp_ge, wq_icmp_gt, wq_icmp_le, wp_max, wp_min, kI_inl, kR_some, kN_inl, kO_some, KT_none, KT_some, List.length_cons, List.length_nil, Nat.reduceAdd, Nat.reduceLT, Nat.reduceLeDiff, Nat.reduceMod, Nat.reduceDiv, true_and, and_true, Int.reduceLE, Int.reduceNeg, Int.reduceLT, Int.cast_ofNat_Int, Nat.zero_le, zI, Int.reduceAdd, Int.reduceSub, Int.reduceMul, not_true_eq_false, not_false_eq_true, false_implies, true_implies, i01_0, i01_1, ite_not, ↓reduceIte, zget_0, zget_1, zget_2, zget_3, zget_4, zget_5, zget_6, zget_7, zget_8, zget_9, zget_10, zset_0, zset_1, zset_2, zset_3, zset_4, zset_5, zset_6, zset_7, zset_8, zset_9, zset_10, kd_171, rf_171_0, rf_171_1, rf_171_3, rf_171_4, rf_171_5, rf_171_6, rf_171_7, rf_171_8, rf_171_10, rf_171_13, rf_171_14, rf_171_15, rf_171_16, rf_171_17, rf_171_20, rf_171_21, rf_171_27, rf_171_28, rf_171_29, rf_171_30, rf_171_31, hof, c3, not_true_eq_false, if_false, c_thingAt, wp_iaload kd_174, wp_iaload kd_175, wp_iaload kd_176, wp_iaload kd_177, wp_iaload kd_178, wp_iaload kd_179, wp_iastore kd_174, wp_iastore kd_175, wp_iastore kd_176, wp_iastore kd_177, wp_iastore kd_178, wp_iastore kd_179, zu_setc, lym_A, lym_m, lym_sm, lym_N, lym_L, lym_D, lym_S, lym_P, lym_G, lym_sN, lym_sL, lym_sD, lym_sS, lym_sP, lym_sG, c4]
          try (repeat (refine (and_iff_right (by omega)).trans ?_))
          try exact Iff.rfl
        · simp (disch := omega) only [cw_142, pg_179_211, wp_iload, wp_aload, wp_istore, wp_astore, wp_iinc, wp_iconst, wp_dup, wp_dup2, wp_pop, wp_iadd, wp_isub, wp_imul, wp_idiv, wp_irem, wp_ineg, wp_iand, wp_ior, wp_ixor, wp_ishl, wp_ishr, wp_getI, wp_putI, wp_getR, wp_goto, wp_goto_w, wq_if_eq, wq_if_ne, wq_if_lt, wq_if_ge, wq_if_gt, wq_if_le, wq_icmp_eq, wq_icmp_ne, wq_icmp_lt, wq_icmp_ge, wq_icmp_gt, wq_icmp_le, wp_max, wp_min, kI_inl, kR_some, kN_inl, kO_some, KT_none, KT_some, List.length_cons, List.length_nil, Nat.reduceAdd, Nat.reduceLT, Nat.reduceLeDiff, Nat.reduceMod, Nat.reduceDiv, true_and, and_true, Int.reduceLE, Int.reduceNeg, Int.reduceLT, Int.cast_ofNat_Int, Nat.zero_le, zI, Int.reduceAdd, Int.reduceSub, Int.reduceMul, not_true_eq_false, not_false_eq_true, false_implies, true_implies, i01_0, i01_1, ite_not, ↓reduceIte, zget_0, zget_1, zget_2, zget_3, zget_4, zget_5, zget_6, zget_7, zget_8, zget_9, zget_10, zset_0, zset_1, zset_2, zset_3, zset_4, zset_5, zset_6, zset_7, zset_8, zset_9, zset_10, kd_171, rf_171_0, rf_171_1, rf_171_3, rf_171_4, rf_171_5, rf_171_6, rf_171_7, rf_171_8, rf_171_10, rf_171_13, rf_171_14, rf_171_15, rf_171_16, rf_171_17, rf_171_20, rf_171_21, rf_171_27, rf_171_28, rf_171_29, rf_171_30, rf_171_31, hof, c3, not_false_eq_true, if_true]
          try (repeat (refine (and_iff_right (by omega)).trans ?_))
          try exact Iff.rfl
    · have ec : gaD A on k bu e (gG r) = gG r := if_neg c
      rw [ec] at h3 hmo ⊢
      have ih := l_gaD hX hg hk (on := on) n (e + 1) r x5 (by omega) (by omega) h2 h3 Q
      rw [← ih]
      conv => lhs; rw [pg_179_8]
      by_cases c1 : on e = true
      · have c3 : ¬ buM A e = bu := fun q => c ⟨c1, q⟩
        simp (disch := omega) only [cw_149, cw_175, pg_179_211, wp_iload, wp_aload, wp_istore, wp_astore, wp_iinc, wp_iconst, wp_dup, wp_dup2, wp_pop, wp_iadd, wp_isub, wp_imul, wp_idiv, wp_irem, wp_ineg, wp_iand, wp_ior, wp_ixor, wp_ishl, wp_ishr, wp_getI, wp_putI, wp_getR, wp_goto, wp_goto_w, wq_if_eq, wq_if_ne, wq_if_lt, wq_if_ge, wq_if_gt, wq_if_le, wq_icmp_eq, wq_icmp_ne, wq_icmp_lt, wq_icmp_ge, wq_icmp_gt, wq_icmp_le, wp_max, wp_min, kI_inl, kR_some, kN_inl, kO_some, KT_none, KT_some, List.length_cons, List.length_nil, Nat.reduceAdd, Nat.reduceLT, Nat.reduceLeDiff, Nat.reduceMod, Nat.reduceDiv, true_and, and_true, Int.reduceLE, Int.reduceNeg, Int.reduceLT, Int.cast_ofNat_Int, Nat.zero_le, zI, Int.reduceAdd, Int.reduceSub, Int.reduceMul, not_true_eq_false, not_false_eq_true, false_implies, true_implies, i01_0, i01_1, ite_not, ↓reduceIte, zget_0, zget_1, zget_2, zget_3, zget_4, zget_5, zget_6, zget_7, zget_8, zget_9, zget_10, zset_0, zset_1, zset_2, zset_3, zset_4, zset_5, zset_6, zset_7, zset_8, zset_9, zset_10, kd_171, rf_171_0, rf_171_1, rf_171_3, rf_171_4, rf_171_5, rf_171_6, rf_171_7, rf_171_8, rf_171_10, rf_171_13, rf_171_14, rf_171_15, rf_171_16, rf_171_17, rf_171_20, rf_171_21, rf_171_27, rf_171_28, rf_171_29, rf_171_30, rf_171_31, show ¬ 20 ≤ e by omega, if_false, c_bit, if_pos c1, hbo, c3]
        try simp only [show ¬ (1 : Int) = 0 by omega, if_false]
        try (repeat (refine (and_iff_right (by omega)).trans ?_))
        try exact Iff.rfl
      · simp (disch := omega) only [cw_149, cw_175, pg_179_211, wp_iload, wp_aload, wp_istore, wp_astore, wp_iinc, wp_iconst, wp_dup, wp_dup2, wp_pop, wp_iadd, wp_isub, wp_imul, wp_idiv, wp_irem, wp_ineg, wp_iand, wp_ior, wp_ixor, wp_ishl, wp_ishr, wp_getI, wp_putI, wp_getR, wp_goto, wp_goto_w, wq_if_eq, wq_if_ne, wq_if_lt, wq_if_ge, wq_if_gt, wq_if_le, wq_icmp_eq, wq_icmp_ne, wq_icmp_lt, wq_icmp_ge, wq_icmp_gt, wq_icmp_le, wp_max, wp_min, kI_inl, kR_some, kN_inl, kO_some, KT_none, KT_some, List.length_cons, List.length_nil, Nat.reduceAdd, Nat.reduceLT, Nat.reduceLeDiff, Nat.reduceMod, Nat.reduceDiv, true_and, and_true, Int.reduceLE, Int.reduceNeg, Int.reduceLT, Int.cast_ofNat_Int, Nat.zero_le, zI, Int.reduceAdd, Int.reduceSub, Int.reduceMul, not_true_eq_false, not_false_eq_true, false_implies, true_implies, i01_0, i01_1, ite_not, ↓reduceIte, zget_0, zget_1, zget_2, zget_3, zget_4, zget_5, zget_6, zget_7, zget_8, zget_9, zget_10, zset_0, zset_1, zset_2, zset_3, zset_4, zset_5, zset_6, zset_7, zset_8, zset_9, zset_10, kd_171, rf_171_0, rf_171_1, rf_171_3, rf_171_4, rf_171_5, rf_171_6, rf_171_7, rf_171_8, rf_171_10, rf_171_13, rf_171_14, rf_171_15, rf_171_16, rf_171_17, rf_171_20, rf_171_21, rf_171_27, rf_171_28, rf_171_29, rf_171_30, rf_171_31, show ¬ 20 ≤ e by omega, if_false, c_bit, if_neg c1, if_true]
        try (repeat (refine (and_iff_right (by omega)).trans ?_))
        try exact Iff.rfl
def gaR (A : Int → Int) (on : Int → Bool) (k bu : Int) (r : zLy) : zGa := lp (gaD A on k bu) 20 0 (r.2.2.2.1, r.2.2.2.2.1, r.2.2.2.2.2.1, 0)
theorem c_gatherM {X : zM} {A : Int → Int} (hX : X 172 = A) (hg : MG A) (hk : 0 ≤ k ∧ k ≤ 1) {on : Int → Bool} {r : zLy} (h32 : (gaR A on k bu r).2.2.2 ≤ 32) : CallP (d + 2) 179 [.inr (some 171), .inl k, .inl bu, .inl (bs on)] (lym X r) Q ↔ Q none (lym X (rG r (gaR A on k bu r))) := by
  have hl := l_gaD (d := d) (bu := bu) hX hg hk (on := on) 20 0 (r.1, r.2.1, r.2.2.1, r.2.2.2.1, r.2.2.2.2.1, r.2.2.2.2.2.1, 0) (.inr none) (by omega) (by omega) (Int.le_refl _) h32 Q
  simp (disch := omega) only [en_179, pg_179_0, wp_iload, wp_aload, wp_istore, wp_astore, wp_iinc, wp_iconst, wp_dup, wp_dup2, wp_pop, wp_iadd, wp_isub, wp_imul, wp_idiv, wp_irem, wp_ineg, wp_iand, wp_ior, wp_ixor, wp_ishl, wp_ishr, wp_getI, wp_putI, wp_getR, wp_goto, wp_goto_w, wq_if_eq, wq_if_ne, wq_if_lt, wq_if_ge, wq_if_gt, wq_if_le, wq_icmp_eq, wq_icmp_ne, wq_icmp_lt, wq_icmp_ge, wq_icmp_gt, wq_icmp_le, wp_max, wp_min, kI_inl, kR_some, kN_inl, kO_some, KT_none, KT_some, List.length_cons, List.length_nil, Nat.reduceAdd, Nat.reduceLT, Nat.reduceLeDiff, Nat.reduceMod, Nat.reduceDiv, true_and, and_true, Int.reduceLE, Int.reduceNeg, Int.reduceLT, Int.cast_ofNat_Int, Nat.zero_le, zI, Int.reduceAdd, Int.reduceSub, Int.reduceMul, not_true_eq_false, not_false_eq_true, false_implies, true_implies, i01_0, i01_1, ite_not, ↓reduceIte, zget_0, zget_1, zget_2, zget_3, zget_4, zget_5, zget_6, zget_7, zget_8, zget_9, zget_10, zset_0, zset_1, zset_2, zset_3, zset_4, zset_5, zset_6, zset_7, zset_8, zset_9, zset_10, kd_171, rf_171_0, rf_171_1, rf_171_3, rf_171_4, rf_171_5, rf_171_6, rf_171_7, rf_171_8, rf_171_10, rf_171_13, rf_171_14, rf_171_15, rf_171_16, rf_171_17, rf_171_20, rf_171_21, rf_171_27, rf_171_28, rf_171_29, rf_171_30, rf_171_31, zu_setc, lym_sm]
  exact hl
end MN
