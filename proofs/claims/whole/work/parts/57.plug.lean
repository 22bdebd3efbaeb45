/-! THE REFERENCE: walk, places, plugging in -/
section MP
variable {d : Nat} {im : zM} {Q : Option zV → zM → Prop} {a b v dv kd sl i j k f e : Int}
/-- a device put into its place in the walk -/
def inW (A : Int → Int) (e : Int) : Nat → (Int → Int) → (Int → Int)
  | 0, o => ups o 0 e
  | k + 1, o => if keM A e < keM A (o (k : Nat)) then inW A e k (ups o ((k : Nat) + 1) (o (k : Nat))) else ups o ((k : Nat) + 1) e
def lwM (A : Int → Int) (e : Int) (y : (Int → Int) × Int) : (Int → Int) × Int := if thM A e then (inW A e y.2.toNat y.1, y.2 + 1) else y
theorem inW_all {A : Int → Int} {p : Int → Prop} (he : p e) : ∀ (k : Nat) (o : Int → Int), (∀ j : Int, 0 ≤ j → j < k → p (o j)) → ∀ j : Int, 0 ≤ j → j ≤ k → p (inW A e k o j)
  | 0, o, h, j, h0, h1 => by
    rw [inW, show j = 0 by omega, ups_at]
    exact he
  | k + 1, o, h, j, h0, h1 => by
    simp only [inW]
    split
    · by_cases c : j = (k : Int) + 1
      · have key : ∀ (n : Nat) (o : Int → Int) (m : Int), (n : Int) < m → inW A e n o m = o m := by
          intro n
          induction n with
          | zero => intro o m hm; rw [inW, ups_ne _ _ (by omega)]
          | succ n ih =>
            intro o m hm
            simp only [inW]
            split
            · rw [ih _ _ (by omega), ups_ne _ _ (by omega)]
            · rw [ups_ne _ _ (by omega)]
        rw [c, key k _ _ (by omega), ups_at]
        exact h k (by omega) (by omega)
      · refine inW_all he k _ (fun j h2 h3 => ?_) j h0 (by omega)
        rw [ups_ne _ _ (by omega)]
        exact h j h2 (by omega)
    · by_cases c : j = (k : Int) + 1
      · rw [c, ups_at]
        exact he
      · rw [ups_ne _ _ c]
        exact h j h0 (by omega)
/-- memory with the walk -/
def wkm (X : zM) (y : (Int → Int) × Int) : zM := setc (setc X 173 y.1) 171 (ups (X 171) 2 y.2)
theorem wkm_A {X : zM} {y : (Int → Int) × Int} : wkm X y 172 = X 172 := by
  unfold wkm
  rw [setc_ne _ _ (by omega), setc_ne _ _ (by omega)]
theorem wkm_o {X : zM} {y : (Int → Int) × Int} : wkm X y 173 = y.1 := by
  unfold wkm
  rw [setc_ne _ _ (by omega), setc_at]
theorem wkm_n {X : zM} {y : (Int → Int) × Int} : wkm X y 171 2 = y.2 := by
  unfold wkm
  rw [setc_at, ups_at]
theorem wkm_so {X : zM} {y : (Int → Int) × Int} {o : Int → Int} : setc (wkm X y) 173 o = wkm X (o, y.2) := by
  unfold wkm
  rw [setc_comm _ _ _ (by omega), setc_setc]
theorem wkm_sn {X : zM} {y : (Int → Int) × Int} {n : Int} : setc (wkm X y) 171 (ups (wkm X y 171) 2 n) = wkm X (y.1, n) := by
  unfold wkm
  rw [setc_at, setc_setc, ups_ups]
theorem l_in {X : zM} {A : Int → Int} (hX : X 172 = A) (hA : MU A) (he : thM A e) : ∀ (n : Nat) (o : Int → Int) (cn : Int), n ≤ 19 → 0 ≤ cn ∧ cn ≤ 100 → (∀ j : Int, 0 ≤ j → j < n → thM A (o j)) → ∃ x2, ∀ Q, wp none (d + 3) 156 (zpg 156 29) [.inr (some 171), .inl e, .inl (n : Int)] [] (wkm X (o, cn)) Q ↔ wp none (d + 3) 156 (zpg 156 7) [.inr (some 171), .inl (e + 1), x2] [] (wkm X (inW A e n o, cn + 1)) Q
  | 0, o, cn, hn, hc, ho => by
    refine ⟨.inl ((0 : Nat) : Int), fun Q => ?_⟩
    conv => lhs; rw [pg_156_29]
    simp (disch := omega) only [wp_iload, wp_aload, wp_istore, wp_astore, wp_iinc, wp_iconst, wp_dup, wp_dup2, wp_pop, wp_iadd, wp_isub, wp_imul, wp_idiv, wp_irem, wp_ineg, wp_iand, wp_ior, wp_ixor, wp_ishl, wp_ishr, wp_getI, wp_putI, wp_getR, wp_goto, wp_goto_w, wq_if_eq, wq_if_ne, wq_if_lt, wq_if_ge, wq_if_gt, wq_if_le, wq_icmp_eq, wq_icmp_ne, wq_icmp_lt, wq_icmp_ge, wq_icmp_gt, wq_icmp_le, wp_max, wp_min, kI_inl, kR_some, kN_inl, kO_some, KT_none, KT_some, List.length_cons, List.length_nil, Nat.reduceAdd, Nat.reduceLT, Nat.reduceLeDiff, Nat.reduceMod, Nat.reduceDiv, true_and, and_true, Int.reduceLE, Int.reduceNeg, Int.reduceLT, Int.cast_ofNat_Int, Nat.zero_le, zI, Int.reduceAdd, Int.reduceSub, Int.reduceMul, not_true_eq_false, not_false_eq_true, false_implies, true_implies, i01_0, i01_1, ite_not, ↓reduceIte, zget_0, zget_1, zget_2, zget_3, zget_4, zget_5, zget_6, zget_7, zget_8, zget_9, zget_10, zset_0, zset_1, zset_2, zset_3, zset_4, zset_5, zset_6, zset_7, zset_8, zset_9, zset_10, kd_171, rf_171_0, rf_171_1, rf_171_3, rf_171_4, rf_171_5, rf_171_6, rf_171_7, rf_171_8, rf_171_10, rf_171_13, rf_171_14, rf_171_15, rf_171_16, rf_171_17, rf_171_20, rf_171_21, rf_171_27, rf_171_28, rf_171_29, rf_171_30, rf_171_31, pg_156_73, wp_iastore kd_173, zu_setc, wkm_o, wkm_so, wkm_n, wkm_sn, show ((0 : Nat) : Int) ≤ 0 by omega, if_true, inW]
    try (repeat (refine (and_iff_right (by omega)).trans ?_))
    try exact Iff.rfl
  | n + 1, o, cn, hn, hc, ho => by
    have e1 : ((n + 1 : Nat) : Int) = (n : Int) + 1 := by omega
    have hth := ho n (by omega) (by omega)
    have hkey := fun dv Q (h : thM A dv) => c_keyOf (d := d) (im := wkm X (o, cn)) (dv := dv) (Q := Q) (by rw [wkm_A, hX]; exact hA) (by rw [wkm_A, hX]; exact h)
    simp only [wkm_A, hX] at hkey
    have hk1 := fun Q => hkey (o n) Q hth
    have hk2 := fun Q => hkey e Q he
    have e2 : (n : Int) + 1 - 1 = n := by omega
    by_cases c1 : keM A e < keM A (o (n : Nat))
    · obtain ⟨x2, ih⟩ := l_in hX hA he n (ups o ((n : Nat) + 1) (o (n : Nat))) cn (by omega) hc (fun j h0 h1 => by
        rw [ups_ne _ _ (by omega)]
        exact ho j h0 (by omega))
      refine ⟨x2, fun Q => ?_⟩
      have ec : inW A e (n + 1) o = inW A e n (ups o ((n : Nat) + 1) (o (n : Nat))) := if_pos c1
      rw [ec, ← ih Q, e1]
      conv => lhs; rw [pg_156_29]
      simp (disch := omega) only [wp_iload, wp_aload, wp_istore, wp_astore, wp_iinc, wp_iconst, wp_dup, wp_dup2, wp_pop, wp_iadd, wp_isub, wp_imul, wp_idiv, wp_irem, wp_ineg, wp_iand, wp_ior, wp_ixor, wp_ishl, wp_ishr, wp_getI, wp_putI, wp_getR, wp_goto, wp_goto_w, wq_if_eq, wq_if_ne, wq_if_lt, wq_if_ge, wq_if_gt, wq_if_le, wq_icmp_eq, wq_icmp_ne, wq_icmp_lt, wq_icmp_ge, wq_icmp_gt, wq_icmp_le, wp_max, wp_min, kI_inl, kR_some, kN_inl, kO_some, KT_none, KT_some, List.length_cons, List.length_nil, Nat.reduceAdd, Nat.reduceLT, Nat.reduceLeDiff, Nat.reduceMod, Nat.reduceDiv, true_and, and_true, Int.reduceLE, Int.reduceNeg, Int.reduceLT, Int.cast_ofNat_Int, Nat.zero_le, zI, Int.reduceAdd, Int.reduceSub, Int.reduceMul, not_true_eq_false, not_false_eq_true, false_implies, true_implies, i01_0, i01_1, ite_not, ↓reduceIte, zget_0, zget_1, zget_2, zget_3, zget_4, zget_5, zget_6, zget_7, zget_8, zget_9, zget_10, zset_0, zset_1, zset_2, zset_3, zset_4, zset_5, zset_6, zset_7, zset_8, zset_9, zset_10, kd_171, rf_171_0, rf_171_1, rf_171_3, rf_171_4, rf_171_5, rf_171_6, rf_171_7, rf_171_8, rf_171_10, rf_171_13, rf_171_14, rf_171_15, rf_171_16, rf_171_17, rf_171_20, rf_171_21, rf_171_27, rf_171_28, rf_171_29, rf_171_30, rf_171_31, cw_155, wp_iaload kd_173, wp_iastore kd_173, zu_setc, wkm_o, wkm_so, show ¬ (n : Int) + 1 ≤ 0 by omega, if_false, e2, hk1, hk2, show ¬ keM A (o (n : Nat)) ≤ keM A e by omega]
      rw [show (n : Int) + 1 + -1 = n by omega]
      try (repeat (refine (and_iff_right (by omega)).trans ?_))
      try exact Iff.rfl
    · refine ⟨.inl ((n : Int) + 1), fun Q => ?_⟩
      have ec : inW A e (n + 1) o = ups o ((n : Nat) + 1) e := if_neg c1
      rw [ec, e1]
      conv => lhs; rw [pg_156_29]
      simp (disch := omega) only [wp_iload, wp_aload, wp_istore, wp_astore, wp_iinc, wp_iconst, wp_dup, wp_dup2, wp_pop, wp_iadd, wp_isub, wp_imul, wp_idiv, wp_irem, wp_ineg, wp_iand, wp_ior, wp_ixor, wp_ishl, wp_ishr, wp_getI, wp_putI, wp_getR, wp_goto, wp_goto_w, wq_if_eq, wq_if_ne, wq_if_lt, wq_if_ge, wq_if_gt, wq_if_le, wq_icmp_eq, wq_icmp_ne, wq_icmp_lt, wq_icmp_ge, wq_icmp_gt, wq_icmp_le, wp_max, wp_min, kI_inl, kR_some, kN_inl, kO_some, KT_none, KT_some, List.length_cons, List.length_nil, Nat.reduceAdd, Nat.reduceLT, Nat.reduceLeDiff, Nat.reduceMod, Nat.reduceDiv, true_and, and_true, Int.reduceLE, Int.reduceNeg, Int.reduceLT, Int.cast_ofNat_Int, Nat.zero_le, zI, Int.reduceAdd, Int.reduceSub, Int.reduceMul, not_true_eq_false, not_false_eq_true, false_implies, true_implies, i01_0, i01_1, ite_not, ↓reduceIte, zget_0, zget_1, zget_2, zget_3, zget_4, zget_5, zget_6, zget_7, zget_8, zget_9, zget_10, zset_0, zset_1, zset_2, zset_3, zset_4, zset_5, zset_6, zset_7, zset_8, zset_9, zset_10, kd_171, rf_171_0, rf_171_1, rf_171_3, rf_171_4, rf_171_5, rf_171_6, rf_171_7, rf_171_8, rf_171_10, rf_171_13, rf_171_14, rf_171_15, rf_171_16, rf_171_17, rf_171_20, rf_171_21, rf_171_27, rf_171_28, rf_171_29, rf_171_30, rf_171_31, pg_156_73, cw_155, wp_iaload kd_173, wp_iastore kd_173, zu_setc, wkm_o, wkm_so, wkm_n, wkm_sn, show ¬ (n : Int) + 1 ≤ 0 by omega, if_false, e2, hk1, hk2, show keM A (o (n : Nat)) ≤ keM A e by omega, if_true]
      try (repeat (refine (and_iff_right (by omega)).trans ?_))
      try exact Iff.rfl
theorem l_lw {X : zM} {A : Int → Int} (hX : X 172 = A) (hA : MU A) : ∀ (m : Nat) (e : Int) (y : (Int → Int) × Int) (x2 : zV), 0 ≤ e → e + m = 20 → 0 ≤ y.2 ∧ y.2 ≤ e → (∀ j : Int, 0 ≤ j → j < y.2 → thM A (y.1 j)) → (∀ Q, wp none (d + 3) 156 (zpg 156 7) [.inr (some 171), .inl e, x2] [] (wkm X y) Q ↔ Q none (wkm X (lp (lwM A) m e y))) ∧ (0 ≤ (lp (lwM A) m e y).2 ∧ (lp (lwM A) m e y).2 ≤ 20) ∧ (∀ j : Int, 0 ≤ j → j < (lp (lwM A) m e y).2 → thM A ((lp (lwM A) m e y).1 j))
  | 0, e, y, x2, h0, h1, hy, ho => by
    refine ⟨fun Q => ?_, ⟨hy.1, by simp only [lp]; omega⟩, ho⟩
    rw [pg_156_7]
    simp (disch := omega) only [wp_return rk_156, pg_156_24, pg_156_73, pg_156_90, pg_156_96, cw_144, cw_155, wp_iload, wp_aload, wp_istore, wp_astore, wp_iinc, wp_iconst, wp_dup, wp_dup2, wp_pop, wp_iadd, wp_isub, wp_imul, wp_idiv, wp_irem, wp_ineg, wp_iand, wp_ior, wp_ixor, wp_ishl, wp_ishr, wp_getI, wp_putI, wp_getR, wp_goto, wp_goto_w, wq_if_eq, wq_if_ne, wq_if_lt, wq_if_ge, wq_if_gt, wq_if_le, wq_icmp_eq, wq_icmp_ne, wq_icmp_lt, wq_icmp_ge, wq_icmp_gt, wq_icmp_le, wp_max, wp_min, kI_inl, kR_some, kN_inl, kO_some, KT_none, KT_some, List.length_cons, List.length_nil, Nat.reduceAdd, Nat.reduceLT, Nat.reduceLeDiff, Nat.reduceMod, Nat.reduceDiv, true_and, and_true, Int.reduceLE, Int.reduceNeg, Int.reduceLT, Int.cast_ofNat_Int, Nat.zero_le, zI, Int.reduceAdd, Int.reduceSub, Int.reduceMul, not_true_eq_false, not_false_eq_true, false_implies, true_implies, i01_0, i01_1, ite_not, ↓reduceIte, zget_0, zget_1, zget_2, zget_3, zget_4, zget_5, zget_6, zget_7, zget_8, zget_9, zget_10, zset_0, zset_1, zset_2, zset_3, zset_4, zset_5, zset_6, zset_7, zset_8, zset_9, zset_10, show 20 ≤ e by omega, if_true, lp]
  | m + 1, e, y, x2, h0, h1, hy, ho => by
    have hth := fun Q => c_thM (d := d + 1) (im := wkm X y) (dv := e) (Q := Q)
    simp only [wkm_A, hX] at hth
    by_cases c1 : thM A e
    · obtain ⟨x2', hin⟩ := l_in (d := d) hX hA c1 y.2.toNat y.1 y.2 (by omega) (by omega) (fun j q0 q1 => ho j q0 (by omega))
      have ec : lwM A e y = (inW A e y.2.toNat y.1, y.2 + 1) := if_pos c1
      have ih := l_lw hX hA m (e + 1) (inW A e y.2.toNat y.1, y.2 + 1) x2' (by omega) (by omega) (by dsimp only; omega) (fun j q0 q1 => inW_all (p := thM A) c1 y.2.toNat y.1 (fun j q2 q3 => ho j q2 (by omega)) j q0 (by dsimp only at q1; omega))
      simp only [lp, ec]
      refine ⟨fun Q => ?_, ih.2⟩
      rw [← ih.1 Q, ← hin Q, pg_156_7]
      have e3 : ((y.2.toNat : Nat) : Int) = y.2 := by omega
      rw [e3]
      simp (disch := omega) only [pg_156_24, cw_144, wp_iload, wp_aload, wp_istore, wp_astore, wp_iinc, wp_iconst, wp_dup, wp_dup2, wp_pop, wp_iadd, wp_isub, wp_imul, wp_idiv, wp_irem, wp_ineg, wp_iand, wp_ior, wp_ixor, wp_ishl, wp_ishr, wp_getI, wp_putI, wp_getR, wp_goto, wp_goto_w, wq_if_eq, wq_if_ne, wq_if_lt, wq_if_ge, wq_if_gt, wq_if_le, wq_icmp_eq, wq_icmp_ne, wq_icmp_lt, wq_icmp_ge, wq_icmp_gt, wq_icmp_le, wp_max, wp_min, kI_inl, kR_some, kN_inl, kO_some, KT_none, KT_some, List.length_cons, List.length_nil, Nat.reduceAdd, Nat.reduceLT, Nat.reduceLeDiff, Nat.reduceMod, Nat.reduceDiv, true_and, and_true, Int.reduceLE, Int.reduceNeg, Int.reduceLT, Int.cast_ofNat_Int, Nat.zero_le, zI, Int.reduceAdd, Int.reduceSub, Int.reduceMul, not_true_eq_false, not_false_eq_true, false_implies, true_implies, i01_0, i01_1, ite_not, ↓reduceIte, zget_0, zget_1, zget_2, zget_3, zget_4, zget_5, zget_6, zget_7, zget_8, zget_9, zget_10, zset_0, zset_1, zset_2, zset_3, zset_4, zset_5, zset_6, zset_7, zset_8, zset_9, zset_10, kd_171, rf_171_0, rf_171_1, rf_171_3, rf_171_4, rf_171_5, rf_171_6, rf_171_7, rf_171_8, rf_171_10, rf_171_13, rf_171_14, rf_171_15, rf_171_16, rf_171_17, rf_171_20, rf_171_21, rf_171_27, rf_171_28, rf_171_29, rf_171_30, rf_171_31, hth, if_pos c1, show ¬ 20 ≤ e by omega, if_false, wkm_n]
      simp only [show ¬ (1 : Int) = 0 by omega, not_false_eq_true, if_true, if_false]
    · have ec : lwM A e y = y := if_neg c1
      have ih := l_lw hX hA m (e + 1) y x2 (by omega) (by omega) (by omega) ho
      simp only [lp, ec]
      refine ⟨fun Q => ?_, ih.2⟩
      rw [← ih.1 Q]
      conv => lhs; rw [pg_156_7]
      simp (disch := omega) only [pg_156_24, pg_156_90, cw_144, wp_iload, wp_aload, wp_istore, wp_astore, wp_iinc, wp_iconst, wp_dup, wp_dup2, wp_pop, wp_iadd, wp_isub, wp_imul, wp_idiv, wp_irem, wp_ineg, wp_iand, wp_ior, wp_ixor, wp_ishl, wp_ishr, wp_getI, wp_putI, wp_getR, wp_goto, wp_goto_w, wq_if_eq, wq_if_ne, wq_if_lt, wq_if_ge, wq_if_gt, wq_if_le, wq_icmp_eq, wq_icmp_ne, wq_icmp_lt, wq_icmp_ge, wq_icmp_gt, wq_icmp_le, wp_max, wp_min, kI_inl, kR_some, kN_inl, kO_some, KT_none, KT_some, List.length_cons, List.length_nil, Nat.reduceAdd, Nat.reduceLT, Nat.reduceLeDiff, Nat.reduceMod, Nat.reduceDiv, true_and, and_true, Int.reduceLE, Int.reduceNeg, Int.reduceLT, Int.cast_ofNat_Int, Nat.zero_le, zI, Int.reduceAdd, Int.reduceSub, Int.reduceMul, not_true_eq_false, not_false_eq_true, false_implies, true_implies, i01_0, i01_1, ite_not, ↓reduceIte, zget_0, zget_1, zget_2, zget_3, zget_4, zget_5, zget_6, zget_7, zget_8, zget_9, zget_10, zset_0, zset_1, zset_2, zset_3, zset_4, zset_5, zset_6, zset_7, zset_8, zset_9, zset_10, kd_171, rf_171_0, rf_171_1, rf_171_3, rf_171_4, rf_171_5, rf_171_6, rf_171_7, rf_171_8, rf_171_10, rf_171_13, rf_171_14, rf_171_15, rf_171_16, rf_171_17, rf_171_20, rf_171_21, rf_171_27, rf_171_28, rf_171_29, rf_171_30, rf_171_31, hth, if_neg c1, show ¬ 20 ≤ e by omega, if_false]
      try simp only [not_true_eq_false, if_false]
      try (repeat (refine (and_iff_right (by omega)).trans ?_))
      try exact Iff.rfl
/-- the walk of the reference -/
def waM (im : zM) : (Int → Int) × Int := lp (lwM (im 172)) 20 0 (im 173, 0)
theorem c_layWalk (hA : MU (im 172)) : (CallP (d + 3) 156 [.inr (some 171)] im Q ↔ Q none (wkm im (waM im))) ∧ (0 ≤ (waM im).2 ∧ (waM im).2 ≤ 20) ∧ (∀ j : Int, 0 ≤ j → j < (waM im).2 → thM (im 172) ((waM im).1 j)) := by
  have hl := l_lw (d := d) (X := im) rfl hA 20 0 (im 173, 0) (.inr none) (by omega) (by omega) ⟨Int.le_refl _, Int.le_refl _⟩ (fun j q0 q1 => by dsimp only at q1; omega)
  refine ⟨?_, hl.2⟩
  have h1 := hl.1 Q
  have e0 : wkm im (im 173, 0) = setc im 171 (ups (im 171) 2 0) := by
    unfold wkm
    dsimp only
    rw [setc_self]
  rw [e0] at h1
  simp (disch := omega) only [en_156, pg_156_0, wp_iload, wp_aload, wp_istore, wp_astore, wp_iinc, wp_iconst, wp_dup, wp_dup2, wp_pop, wp_iadd, wp_isub, wp_imul, wp_idiv, wp_irem, wp_ineg, wp_iand, wp_ior, wp_ixor, wp_ishl, wp_ishr, wp_getI, wp_putI, wp_getR, wp_goto, wp_goto_w, wq_if_eq, wq_if_ne, wq_if_lt, wq_if_ge, wq_if_gt, wq_if_le, wq_icmp_eq, wq_icmp_ne, wq_icmp_lt, wq_icmp_ge, wq_icmp_gt, wq_icmp_le, wp_max, wp_min, kI_inl, kR_some, kN_inl, kO_some, KT_none, KT_some, List.length_cons, List.length_nil, Nat.reduceAdd, Nat.reduceLT, Nat.reduceLeDiff, Nat.reduceMod, Nat.reduceDiv, true_and, and_true, Int.reduceLE, Int.reduceNeg, Int.reduceLT, Int.cast_ofNat_Int, Nat.zero_le, zI, Int.reduceAdd, Int.reduceSub, Int.reduceMul, not_true_eq_false, not_false_eq_true, false_implies, true_implies, i01_0, i01_1, ite_not, ↓reduceIte, zget_0, zget_1, zget_2, zget_3, zget_4, zget_5, zget_6, zget_7, zget_8, zget_9, zget_10, zset_0, zset_1, zset_2, zset_3, zset_4, zset_5, zset_6, zset_7, zset_8, zset_9, zset_10, kd_171, rf_171_0, rf_171_1, rf_171_3, rf_171_4, rf_171_5, rf_171_6, rf_171_7, rf_171_8, rf_171_10, rf_171_13, rf_171_14, rf_171_15, rf_171_16, rf_171_17, rf_171_20, rf_171_21, rf_171_27, rf_171_28, rf_171_29, rf_171_30, rf_171_31, zu_setc]
  exact h1
def isM (A : Int → Int) (a sl : Int) (e : Int) : Bool := decide (thM A e ∧ A (23 * e + 2) = a ∧ A (23 * e + 3) = sl)
theorem l_inSlot : ∀ (n : Nat) (e : Int), 0 ≤ e → e + n = 20 → ∀ Q, wp none (d + 2) 157 (zpg 157 2) [.inr (some 171), .inl a, .inl sl, .inl e] [] im Q ↔ Q (some (.inl (ff (isM (im 172) a sl) n e))) im
  | 0, e, h0, h1, Q => by
    rw [pg_157_2]
    simp (disch := omega) only [wp_ireturn rk_157, pg_157_38, pg_157_44, cw_142, cw_144, wp_iload, wp_aload, wp_istore, wp_astore, wp_iinc, wp_iconst, wp_dup, wp_dup2, wp_pop, wp_iadd, wp_isub, wp_imul, wp_idiv, wp_irem, wp_ineg, wp_iand, wp_ior, wp_ixor, wp_ishl, wp_ishr, wp_getI, wp_putI, wp_getR, wp_goto, wp_goto_w, wq_if_eq, wq_if_ne, wq_if_lt, wq_if_ge, wq_if_gt, wq_if_le, wq_icmp_eq, wq_icmp_ne, wq_icmp_lt, wq_icmp_ge, wq_icmp_gt, wq_icmp_le, wp_max, wp_min, kI_inl, kR_some, kN_inl, kO_some, KT_none, KT_some, List.length_cons, List.length_nil, Nat.reduceAdd, Nat.reduceLT, Nat.reduceLeDiff, Nat.reduceMod, Nat.reduceDiv, true_and, and_true, Int.reduceLE, Int.reduceNeg, Int.reduceLT, Int.cast_ofNat_Int, Nat.zero_le, zI, Int.reduceAdd, Int.reduceSub, Int.reduceMul, not_true_eq_false, not_false_eq_true, false_implies, true_implies, i01_0, i01_1, ite_not, ↓reduceIte, zget_0, zget_1, zget_2, zget_3, zget_4, zget_5, zget_6, zget_7, zget_8, zget_9, zget_10, zset_0, zset_1, zset_2, zset_3, zset_4, zset_5, zset_6, zset_7, zset_8, zset_9, zset_10, show 20 ≤ e by omega, if_true, ff]
  | n + 1, e, h0, h1, Q => by
    have ih := l_inSlot n (e + 1) (by omega) (by omega) Q
    rw [pg_157_2]
    by_cases c1 : thM (im 172) e
    · by_cases c2 : im 172 (23 * e + 2) = a ∧ im 172 (23 * e + 3) = sl
      · have ec : ff (isM (im 172) a sl) (n + 1) e = e := if_pos (decide_eq_true ⟨c1, c2⟩)
        rw [ec]
        simp (disch := omega) only [wp_ireturn rk_157, pg_157_38, pg_157_44, cw_142, cw_144, wp_iload, wp_aload, wp_istore, wp_astore, wp_iinc, wp_iconst, wp_dup, wp_dup2, wp_pop, wp_iadd, wp_isub, wp_imul, wp_idiv, wp_irem, wp_ineg, wp_iand, wp_ior, wp_ixor, wp_ishl, wp_ishr, wp_getI, wp_putI, wp_getR, wp_goto, wp_goto_w, wq_if_eq, wq_if_ne, wq_if_lt, wq_if_ge, wq_if_gt, wq_if_le, wq_icmp_eq, wq_icmp_ne, wq_icmp_lt, wq_icmp_ge, wq_icmp_gt, wq_icmp_le, wp_max, wp_min, kI_inl, kR_some, kN_inl, kO_some, KT_none, KT_some, List.length_cons, List.length_nil, Nat.reduceAdd, Nat.reduceLT, Nat.reduceLeDiff, Nat.reduceMod, Nat.reduceDiv, true_and, and_true, Int.reduceLE, Int.reduceNeg, Int.reduceLT, Int.cast_ofNat_Int, Nat.zero_le, zI, Int.reduceAdd, Int.reduceSub, Int.reduceMul, not_true_eq_false, not_false_eq_true, false_implies, true_implies, i01_0, i01_1, ite_not, ↓reduceIte, zget_0, zget_1, zget_2, zget_3, zget_4, zget_5, zget_6, zget_7, zget_8, zget_9, zget_10, zset_0, zset_1, zset_2, zset_3, zset_4, zset_5, zset_6, zset_7, zset_8, zset_9, zset_10, kd_171, rf_171_0, rf_171_1, rf_171_3, rf_171_4, rf_171_5, rf_171_6, rf_171_7, rf_171_8, rf_171_10, rf_171_13, rf_171_14, rf_171_15, rf_171_16, rf_171_17, rf_171_20, rf_171_21, rf_171_27, rf_171_28, rf_171_29, rf_171_30, rf_171_31, c_thM, if_pos c1, c_of, show ¬ 20 ≤ e by omega, if_false, c2.1, c2.2, if_true]
        simp only [show ¬ (1 : Int) = 0 by omega, if_false]
      · have ec : ff (isM (im 172) a sl) (n + 1) e = ff (isM (im 172) a sl) n (e + 1) := if_neg (fun q => c2 (of_decide_eq_true q).2)
        rw [ec]
        simp (disch := omega) only [wp_ireturn rk_157, pg_157_38, pg_157_44, cw_142, cw_144, wp_iload, wp_aload, wp_istore, wp_astore, wp_iinc, wp_iconst, wp_dup, wp_dup2, wp_pop, wp_iadd, wp_isub, wp_imul, wp_idiv, wp_irem, wp_ineg, wp_iand, wp_ior, wp_ixor, wp_ishl, wp_ishr, wp_getI, wp_putI, wp_getR, wp_goto, wp_goto_w, wq_if_eq, wq_if_ne, wq_if_lt, wq_if_ge, wq_if_gt, wq_if_le, wq_icmp_eq, wq_icmp_ne, wq_icmp_lt, wq_icmp_ge, wq_icmp_gt, wq_icmp_le, wp_max, wp_min, kI_inl, kR_some, kN_inl, kO_some, KT_none, KT_some, List.length_cons, List.length_nil, Nat.reduceAdd, Nat.reduceLT, Nat.reduceLeDiff, Nat.reduceMod, Nat.reduceDiv, true_and, and_true, Int.reduceLE, Int.reduceNeg, Int.reduceLT, Int.cast_ofNat_Int, Nat.zero_le, zI, Int.reduceAdd, Int.reduceSub, Int.reduceMul, not_true_eq_false, not_false_eq_true, false_implies, true_implies, i01_0, i01_1, ite_not, ↓reduceIte, zget_0, zget_1, zget_2, zget_3, zget_4, zget_5, zget_6, zget_7, zget_8, zget_9, zget_10, zset_0, zset_1, zset_2, zset_3, zset_4, zset_5, zset_6, zset_7, zset_8, zset_9, zset_10, kd_171, rf_171_0, rf_171_1, rf_171_3, rf_171_4, rf_171_5, rf_171_6, rf_171_7, rf_171_8, rf_171_10, rf_171_13, rf_171_14, rf_171_15, rf_171_16, rf_171_17, rf_171_20, rf_171_21, rf_171_27, rf_171_28, rf_171_29, rf_171_30, rf_171_31, c_thM, if_pos c1, c_of, show ¬ 20 ≤ e by omega, if_false]
        simp only [show ¬ (1 : Int) = 0 by omega, if_false]
        by_cases c3 : im 172 (23 * e + 2) = a
        · rw [if_pos c3, if_neg (fun q => c2 ⟨c3, q⟩)]
          repeat (refine (and_iff_right (by omega)).trans ?_)
          exact ih
        · rw [if_neg c3]
          repeat (refine (and_iff_right (by omega)).trans ?_)
          exact ih
    · have ec : ff (isM (im 172) a sl) (n + 1) e = ff (isM (im 172) a sl) n (e + 1) := if_neg (fun q => c1 (of_decide_eq_true q).1)
      rw [ec]
      simp (disch := omega) only [wp_ireturn rk_157, pg_157_38, pg_157_44, cw_142, cw_144, wp_iload, wp_aload, wp_istore, wp_astore, wp_iinc, wp_iconst, wp_dup, wp_dup2, wp_pop, wp_iadd, wp_isub, wp_imul, wp_idiv, wp_irem, wp_ineg, wp_iand, wp_ior, wp_ixor, wp_ishl, wp_ishr, wp_getI, wp_putI, wp_getR, wp_goto, wp_goto_w, wq_if_eq, wq_if_ne, wq_if_lt, wq_if_ge, wq_if_gt, wq_if_le, wq_icmp_eq, wq_icmp_ne, wq_icmp_lt, wq_icmp_ge, wq_icmp_gt, wq_icmp_le, wp_max, wp_min, kI_inl, kR_some, kN_inl, kO_some, KT_none, KT_some, List.length_cons, List.length_nil, Nat.reduceAdd, Nat.reduceLT, Nat.reduceLeDiff, Nat.reduceMod, Nat.reduceDiv, true_and, and_true, Int.reduceLE, Int.reduceNeg, Int.reduceLT, Int.cast_ofNat_Int, Nat.zero_le, zI, Int.reduceAdd, Int.reduceSub, Int.reduceMul, not_true_eq_false, not_false_eq_true, false_implies, true_implies, i01_0, i01_1, ite_not, ↓reduceIte, zget_0, zget_1, zget_2, zget_3, zget_4, zget_5, zget_6, zget_7, zget_8, zget_9, zget_10, zset_0, zset_1, zset_2, zset_3, zset_4, zset_5, zset_6, zset_7, zset_8, zset_9, zset_10, kd_171, rf_171_0, rf_171_1, rf_171_3, rf_171_4, rf_171_5, rf_171_6, rf_171_7, rf_171_8, rf_171_10, rf_171_13, rf_171_14, rf_171_15, rf_171_16, rf_171_17, rf_171_20, rf_171_21, rf_171_27, rf_171_28, rf_171_29, rf_171_30, rf_171_31, c_thM, if_neg c1, show ¬ 20 ≤ e by omega, if_false, if_true]
      try (repeat (refine (and_iff_right (by omega)).trans ?_))
      try exact Iff.rfl
      exact ih
theorem c_inSlot : CallP (d + 2) 157 [.inr (some 171), .inl a, .inl sl] im Q ↔ Q (some (.inl (ff (isM (im 172) a sl) 20 0))) im := by
  have hl := l_inSlot (d := d) (im := im) (a := a) (sl := sl) 20 0 (by omega) (by omega) Q
  simp (disch := omega) only [en_157, pg_157_0, wp_iload, wp_aload, wp_istore, wp_astore, wp_iinc, wp_iconst, wp_dup, wp_dup2, wp_pop, wp_iadd, wp_isub, wp_imul, wp_idiv, wp_irem, wp_ineg, wp_iand, wp_ior, wp_ixor, wp_ishl, wp_ishr, wp_getI, wp_putI, wp_getR, wp_goto, wp_goto_w, wq_if_eq, wq_if_ne, wq_if_lt, wq_if_ge, wq_if_gt, wq_if_le, wq_icmp_eq, wq_icmp_ne, wq_icmp_lt, wq_icmp_ge, wq_icmp_gt, wq_icmp_le, wp_max, wp_min, kI_inl, kR_some, kN_inl, kO_some, KT_none, KT_some, List.length_cons, List.length_nil, Nat.reduceAdd, Nat.reduceLT, Nat.reduceLeDiff, Nat.reduceMod, Nat.reduceDiv, true_and, and_true, Int.reduceLE, Int.reduceNeg, Int.reduceLT, Int.cast_ofNat_Int, Nat.zero_le, zI, Int.reduceAdd, Int.reduceSub, Int.reduceMul, not_true_eq_false, not_false_eq_true, false_implies, true_implies, i01_0, i01_1, ite_not, ↓reduceIte, zget_0, zget_1, zget_2, zget_3, zget_4, zget_5, zget_6, zget_7, zget_8, zget_9, zget_10, zset_0, zset_1, zset_2, zset_3, zset_4, zset_5, zset_6, zset_7, zset_8, zset_9, zset_10]
  exact hl
abbrev fpM (A : Int → Int) (a sl : Int) : Prop := (a = -1 ∨ brM A a) ∧ (0 ≤ sl ∧ sl ≤ 7) ∧ ff (isM A a sl) 20 0 < 0
theorem c_isFreeM : CallP (d + 3) 158 [.inr (some 171), .inl a, .inl sl] im Q ↔ Q (some (.inl (if fpM (im 172) a sl then 1 else 0))) im := by
  simp (disch := omega) only [en_158, wp_zreturn rk_158, pg_158_0, pg_158_13, pg_158_36, pg_158_37, cw_141, cw_146, cw_157, wp_iload, wp_aload, wp_istore, wp_astore, wp_iinc, wp_iconst, wp_dup, wp_dup2, wp_pop, wp_iadd, wp_isub, wp_imul, wp_idiv, wp_irem, wp_ineg, wp_iand, wp_ior, wp_ixor, wp_ishl, wp_ishr, wp_getI, wp_putI, wp_getR, wp_goto, wp_goto_w, wq_if_eq, wq_if_ne, wq_if_lt, wq_if_ge, wq_if_gt, wq_if_le, wq_icmp_eq, wq_icmp_ne, wq_icmp_lt, wq_icmp_ge, wq_icmp_gt, wq_icmp_le, wp_max, wp_min, kI_inl, kR_some, kN_inl, kO_some, KT_none, KT_some, List.length_cons, List.length_nil, Nat.reduceAdd, Nat.reduceLT, Nat.reduceLeDiff, Nat.reduceMod, Nat.reduceDiv, true_and, and_true, Int.reduceLE, Int.reduceNeg, Int.reduceLT, Int.cast_ofNat_Int, Nat.zero_le, zI, Int.reduceAdd, Int.reduceSub, Int.reduceMul, not_true_eq_false, not_false_eq_true, false_implies, true_implies, i01_0, i01_1, ite_not, ↓reduceIte, zget_0, zget_1, zget_2, zget_3, zget_4, zget_5, zget_6, zget_7, zget_8, zget_9, zget_10, zset_0, zset_1, zset_2, zset_3, zset_4, zset_5, zset_6, zset_7, zset_8, zset_9, zset_10, kd_171, rf_171_0, rf_171_1, rf_171_3, rf_171_4, rf_171_5, rf_171_6, rf_171_7, rf_171_8, rf_171_10, rf_171_13, rf_171_14, rf_171_15, rf_171_16, rf_171_17, rf_171_20, rf_171_21, rf_171_27, rf_171_28, rf_171_29, rf_171_30, rf_171_31, c_brM, c_isIn, c_inSlot]
  by_cases c1 : a = -1
  · subst c1
    by_cases c2 : 0 ≤ sl ∧ sl ≤ 7
    · by_cases c3 : ff (isM (im 172) (-1) sl) 20 0 < 0
      · simp only [fpM, true_or, if_pos c2, c2, c3, and_self, if_true, show ¬ 0 ≤ ff (isM (im 172) (-1) sl) 20 0 by omega, show ¬ (1 : Int) = 0 by omega, if_false, or_true, true_and]
      · simp only [fpM, true_or, if_pos c2, c3, and_false, if_true, show 0 ≤ ff (isM (im 172) (-1) sl) 20 0 by omega, show ¬ (1 : Int) = 0 by omega, if_false, true_and]
    · simp only [fpM, if_neg c2, c2, false_and, and_false, if_true, if_false, true_or, true_and]
  · by_cases c0 : brM (im 172) a
    · by_cases c2 : 0 ≤ sl ∧ sl ≤ 7
      · by_cases c3 : ff (isM (im 172) a sl) 20 0 < 0
        · rw [if_pos (show fpM (im 172) a sl from ⟨Or.inr c0, c2, c3⟩)]
          simp only [c1, if_pos c0, if_pos c2, if_true, show ¬ 0 ≤ ff (isM (im 172) a sl) 20 0 by omega, show ¬ (1 : Int) = 0 by omega, if_false, or_true, true_and]
        · rw [if_neg (show ¬ fpM (im 172) a sl from fun q => c3 q.2.2)]
          simp only [c1, if_pos c0, if_pos c2, if_true, show 0 ≤ ff (isM (im 172) a sl) 20 0 by omega, show ¬ (1 : Int) = 0 by omega, if_false, true_or, true_and]
      · rw [if_neg (show ¬ fpM (im 172) a sl from fun q => c2 q.2.1)]
        simp only [c1, if_pos c0, if_neg c2, if_true, show ¬ (1 : Int) = 0 by omega, if_false, true_or, true_and]
    · rw [if_neg (show ¬ fpM (im 172) a sl from fun q => q.1.elim c1 c0)]
      simp only [c1, if_neg c0, if_true, if_false, true_or, true_and]
def lbM (A : Int → Int) (a : Int) : Int := if a = -1 then 0 else leM A a + 1
theorem c_levelBehind (h : MU (im 172)) (ha : a = -1 ∨ brM (im 172) a) : CallP (d + 2) 159 [.inr (some 171), .inl a] im Q ↔ Q (some (.inl (lbM (im 172) a))) im := by
  by_cases c1 : a = -1
  · simp (disch := omega) only [en_159, wp_ireturn rk_159, pg_159_0, pg_159_9, pg_159_16, cw_153, wp_iload, wp_aload, wp_istore, wp_astore, wp_iinc, wp_iconst, wp_dup, wp_dup2, wp_pop, wp_iadd, wp_isub, wp_imul, wp_idiv, wp_irem, wp_ineg, wp_iand, wp_ior, wp_ixor, wp_ishl, wp_ishr, wp_getI, wp_putI, wp_getR, wp_goto, wp_goto_w, wq_if_eq, wq_if_ne, wq_if_lt, wq_if_ge, wq_if_gt, wq_if_le, wq_icmp_eq, wq_icmp_ne, wq_icmp_lt, wq_icmp_ge, wq_icmp_gt, wq_icmp_le, wp_max, wp_min, kI_inl, kR_some, kN_inl, kO_some, KT_none, KT_some, List.length_cons, List.length_nil, Nat.reduceAdd, Nat.reduceLT, Nat.reduceLeDiff, Nat.reduceMod, Nat.reduceDiv, true_and, and_true, Int.reduceLE, Int.reduceNeg, Int.reduceLT, Int.cast_ofNat_Int, Nat.zero_le, zI, Int.reduceAdd, Int.reduceSub, Int.reduceMul, not_true_eq_false, not_false_eq_true, false_implies, true_implies, i01_0, i01_1, ite_not, ↓reduceIte, zget_0, zget_1, zget_2, zget_3, zget_4, zget_5, zget_6, zget_7, zget_8, zget_9, zget_10, zset_0, zset_1, zset_2, zset_3, zset_4, zset_5, zset_6, zset_7, zset_8, zset_9, zset_10, kd_171, rf_171_0, rf_171_1, rf_171_3, rf_171_4, rf_171_5, rf_171_6, rf_171_7, rf_171_8, rf_171_10, rf_171_13, rf_171_14, rf_171_15, rf_171_16, rf_171_17, rf_171_20, rf_171_21, rf_171_27, rf_171_28, rf_171_29, rf_171_30, rf_171_31, c1, not_true_eq_false, if_false, lbM, if_true]
  · have hb := ha.resolve_left c1
    have hll := lvM_bd (A := im 172) 4 (im 172 (23 * a + 2))
    have e1 : leM (im 172) a = lvM (im 172) 4 (im 172 (23 * a + 2)) := rfl
    simp (disch := first | omega | assumption) only [en_159, wp_ireturn rk_159, pg_159_0, pg_159_9, pg_159_16, cw_153, wp_iload, wp_aload, wp_istore, wp_astore, wp_iinc, wp_iconst, wp_dup, wp_dup2, wp_pop, wp_iadd, wp_isub, wp_imul, wp_idiv, wp_irem, wp_ineg, wp_iand, wp_ior, wp_ixor, wp_ishl, wp_ishr, wp_getI, wp_putI, wp_getR, wp_goto, wp_goto_w, wq_if_eq, wq_if_ne, wq_if_lt, wq_if_ge, wq_if_gt, wq_if_le, wq_icmp_eq, wq_icmp_ne, wq_icmp_lt, wq_icmp_ge, wq_icmp_gt, wq_icmp_le, wp_max, wp_min, kI_inl, kR_some, kN_inl, kO_some, KT_none, KT_some, List.length_cons, List.length_nil, Nat.reduceAdd, Nat.reduceLT, Nat.reduceLeDiff, Nat.reduceMod, Nat.reduceDiv, true_and, and_true, Int.reduceLE, Int.reduceNeg, Int.reduceLT, Int.cast_ofNat_Int, Nat.zero_le, zI, Int.reduceAdd, Int.reduceSub, Int.reduceMul, not_true_eq_false, not_false_eq_true, false_implies, true_implies, i01_0, i01_1, ite_not, ↓reduceIte, zget_0, zget_1, zget_2, zget_3, zget_4, zget_5, zget_6, zget_7, zget_8, zget_9, zget_10, zset_0, zset_1, zset_2, zset_3, zset_4, zset_5, zset_6, zset_7, zset_8, zset_9, zset_10, kd_171, rf_171_0, rf_171_1, rf_171_3, rf_171_4, rf_171_5, rf_171_6, rf_171_7, rf_171_8, rf_171_10, rf_171_13, rf_171_14, rf_171_15, rf_171_16, rf_171_17, rf_171_20, rf_171_21, rf_171_27, rf_171_28, rf_171_29, rf_171_30, rf_171_31, c1, not_false_eq_true, if_true, lbM, if_false, c_levelOf h hb.1]
    try (repeat (refine (and_iff_right (by omega)).trans ?_))
    try exact Iff.rfl
theorem l_free : ∀ (n : Nat) (e : Int), 0 ≤ e → e + n = 20 → ∀ Q, wp none (d + 2) 160 (zpg 160 2) [.inr (some 171), .inl e] [] im Q ↔ Q (some (.inl (ff (fun i => !thB (im 172) i) n e))) im
  | 0, e, h0, h1, Q => by
    rw [pg_160_2]
    simp (disch := omega) only [wp_ireturn rk_160, pg_160_18, pg_160_24, cw_144, wp_iload, wp_aload, wp_istore, wp_astore, wp_iinc, wp_iconst, wp_dup, wp_dup2, wp_pop, wp_iadd, wp_isub, wp_imul, wp_idiv, wp_irem, wp_ineg, wp_iand, wp_ior, wp_ixor, wp_ishl, wp_ishr, wp_getI, wp_putI, wp_getR, wp_goto, wp_goto_w, wq_if_eq, wq_if_ne, wq_if_lt, wq_if_ge, wq_if_gt, wq_if_le, wq_icmp_eq, wq_icmp_ne, wq_icmp_lt, wq_icmp_ge, wq_icmp_gt, wq_icmp_le, wp_max, wp_min, kI_inl, kR_some, kN_inl, kO_some, KT_none, KT_some, List.length_cons, List.length_nil, Nat.reduceAdd, Nat.reduceLT, Nat.reduceLeDiff, Nat.reduceMod, Nat.reduceDiv, true_and, and_true, Int.reduceLE, Int.reduceNeg, Int.reduceLT, Int.cast_ofNat_Int, Nat.zero_le, zI, Int.reduceAdd, Int.reduceSub, Int.reduceMul, not_true_eq_false, not_false_eq_true, false_implies, true_implies, i01_0, i01_1, ite_not, ↓reduceIte, zget_0, zget_1, zget_2, zget_3, zget_4, zget_5, zget_6, zget_7, zget_8, zget_9, zget_10, zset_0, zset_1, zset_2, zset_3, zset_4, zset_5, zset_6, zset_7, zset_8, zset_9, zset_10, show 20 ≤ e by omega, if_true, ff]
  | n + 1, e, h0, h1, Q => by
    have ih := l_free n (e + 1) (by omega) (by omega) Q
    rw [pg_160_2]
    by_cases c1 : thM (im 172) e
    · have ec : ff (fun i => !thB (im 172) i) (n + 1) e = ff (fun i => !thB (im 172) i) n (e + 1) := if_neg (by simp only [thB, decide_eq_true c1]; decide)
      rw [ec]
      simp (disch := omega) only [wp_ireturn rk_160, pg_160_18, pg_160_24, cw_144, wp_iload, wp_aload, wp_istore, wp_astore, wp_iinc, wp_iconst, wp_dup, wp_dup2, wp_pop, wp_iadd, wp_isub, wp_imul, wp_idiv, wp_irem, wp_ineg, wp_iand, wp_ior, wp_ixor, wp_ishl, wp_ishr, wp_getI, wp_putI, wp_getR, wp_goto, wp_goto_w, wq_if_eq, wq_if_ne, wq_if_lt, wq_if_ge, wq_if_gt, wq_if_le, wq_icmp_eq, wq_icmp_ne, wq_icmp_lt, wq_icmp_ge, wq_icmp_gt, wq_icmp_le, wp_max, wp_min, kI_inl, kR_some, kN_inl, kO_some, KT_none, KT_some, List.length_cons, List.length_nil, Nat.reduceAdd, Nat.reduceLT, Nat.reduceLeDiff, Nat.reduceMod, Nat.reduceDiv, true_and, and_true, Int.reduceLE, Int.reduceNeg, Int.reduceLT, Int.cast_ofNat_Int, Nat.zero_le, zI, Int.reduceAdd, Int.reduceSub, Int.reduceMul, not_true_eq_false, not_false_eq_true, false_implies, true_implies, i01_0, i01_1, ite_not, ↓reduceIte, zget_0, zget_1, zget_2, zget_3, zget_4, zget_5, zget_6, zget_7, zget_8, zget_9, zget_10, zset_0, zset_1, zset_2, zset_3, zset_4, zset_5, zset_6, zset_7, zset_8, zset_9, zset_10, kd_171, rf_171_0, rf_171_1, rf_171_3, rf_171_4, rf_171_5, rf_171_6, rf_171_7, rf_171_8, rf_171_10, rf_171_13, rf_171_14, rf_171_15, rf_171_16, rf_171_17, rf_171_20, rf_171_21, rf_171_27, rf_171_28, rf_171_29, rf_171_30, rf_171_31, c_thM, if_pos c1, show ¬ 20 ≤ e by omega, if_false]
      simp only [show ¬ (1 : Int) = 0 by omega, not_false_eq_true, if_true]
      repeat (refine (and_iff_right (by omega)).trans ?_)
      exact ih
    · have ec : ff (fun i => !thB (im 172) i) (n + 1) e = e := if_pos (by simp only [thB, decide_eq_false c1]; decide)
      rw [ec]
      simp (disch := omega) only [wp_ireturn rk_160, pg_160_18, pg_160_24, cw_144, wp_iload, wp_aload, wp_istore, wp_astore, wp_iinc, wp_iconst, wp_dup, wp_dup2, wp_pop, wp_iadd, wp_isub, wp_imul, wp_idiv, wp_irem, wp_ineg, wp_iand, wp_ior, wp_ixor, wp_ishl, wp_ishr, wp_getI, wp_putI, wp_getR, wp_goto, wp_goto_w, wq_if_eq, wq_if_ne, wq_if_lt, wq_if_ge, wq_if_gt, wq_if_le, wq_icmp_eq, wq_icmp_ne, wq_icmp_lt, wq_icmp_ge, wq_icmp_gt, wq_icmp_le, wp_max, wp_min, kI_inl, kR_some, kN_inl, kO_some, KT_none, KT_some, List.length_cons, List.length_nil, Nat.reduceAdd, Nat.reduceLT, Nat.reduceLeDiff, Nat.reduceMod, Nat.reduceDiv, true_and, and_true, Int.reduceLE, Int.reduceNeg, Int.reduceLT, Int.cast_ofNat_Int, Nat.zero_le, zI, Int.reduceAdd, Int.reduceSub, Int.reduceMul, not_true_eq_false, not_false_eq_true, false_implies, true_implies, i01_0, i01_1, ite_not, ↓reduceIte, zget_0, zget_1, zget_2, zget_3, zget_4, zget_5, zget_6, zget_7, zget_8, zget_9, zget_10, zset_0, zset_1, zset_2, zset_3, zset_4, zset_5, zset_6, zset_7, zset_8, zset_9, zset_10, kd_171, rf_171_0, rf_171_1, rf_171_3, rf_171_4, rf_171_5, rf_171_6, rf_171_7, rf_171_8, rf_171_10, rf_171_13, rf_171_14, rf_171_15, rf_171_16, rf_171_17, rf_171_20, rf_171_21, rf_171_27, rf_171_28, rf_171_29, rf_171_30, rf_171_31, c_thM, if_neg c1, show ¬ 20 ≤ e by omega, if_false]
      try simp only [not_true_eq_false, if_false]
/-- the free number of the reference -/
def fnM (A : Int → Int) : Int := ff (fun i => !thB A i) 20 0
theorem c_freeNumber : CallP (d + 2) 160 [.inr (some 171)] im Q ↔ Q (some (.inl (fnM (im 172)))) im := by
  have hl := l_free (d := d) (im := im) 20 0 (by omega) (by omega) Q
  simp (disch := omega) only [en_160, pg_160_0, wp_iload, wp_aload, wp_istore, wp_astore, wp_iinc, wp_iconst, wp_dup, wp_dup2, wp_pop, wp_iadd, wp_isub, wp_imul, wp_idiv, wp_irem, wp_ineg, wp_iand, wp_ior, wp_ixor, wp_ishl, wp_ishr, wp_getI, wp_putI, wp_getR, wp_goto, wp_goto_w, wq_if_eq, wq_if_ne, wq_if_lt, wq_if_ge, wq_if_gt, wq_if_le, wq_icmp_eq, wq_icmp_ne, wq_icmp_lt, wq_icmp_ge, wq_icmp_gt, wq_icmp_le, wp_max, wp_min, kI_inl, kR_some, kN_inl, kO_some, KT_none, KT_some, List.length_cons, List.length_nil, Nat.reduceAdd, Nat.reduceLT, Nat.reduceLeDiff, Nat.reduceMod, Nat.reduceDiv, true_and, and_true, Int.reduceLE, Int.reduceNeg, Int.reduceLT, Int.cast_ofNat_Int, Nat.zero_le, zI, Int.reduceAdd, Int.reduceSub, Int.reduceMul, not_true_eq_false, not_false_eq_true, false_implies, true_implies, i01_0, i01_1, ite_not, ↓reduceIte, zget_0, zget_1, zget_2, zget_3, zget_4, zget_5, zget_6, zget_7, zget_8, zget_9, zget_10, zset_0, zset_1, zset_2, zset_3, zset_4, zset_5, zset_6, zset_7, zset_8, zset_9, zset_10]
  exact hl
abbrev cpM (A : Int → Int) (a sl : Int) : Prop := fpM A a sl ∧ lbM A a ≤ 4 ∧ 0 ≤ fnM A
theorem c_canPlug (h : MU (im 172)) : CallP (d + 4) 161 [.inr (some 171), .inl a, .inl sl] im Q ↔ Q (some (.inl (if cpM (im 172) a sl then 1 else 0))) im := by
  by_cases c1 : fpM (im 172) a sl
  · have hlb := fun Q => c_levelBehind (d := d + 1) (im := im) (a := a) (Q := Q) h c1.1
    simp (disch := omega) only [en_161, wp_zreturn rk_161, pg_161_0, pg_161_29, pg_161_30, cw_158, cw_159, cw_160, wp_iload, wp_aload, wp_istore, wp_astore, wp_iinc, wp_iconst, wp_dup, wp_dup2, wp_pop, wp_iadd, wp_isub, wp_imul, wp_idiv, wp_irem, wp_ineg, wp_iand, wp_ior, wp_ixor, wp_ishl, wp_ishr, wp_getI, wp_putI, wp_getR, wp_goto, wp_goto_w, wq_if_eq, wq_if_ne, wq_if_lt, wq_if_ge, wq_if_gt, wq_if_le, wq_icmp_eq, wq_icmp_ne, wq_icmp_lt, wq_icmp_ge, wq_icmp_gt, wq_icmp_le, wp_max, wp_min, kI_inl, kR_some, kN_inl, kO_some, KT_none, KT_some, List.length_cons, List.length_nil, Nat.reduceAdd, Nat.reduceLT, Nat.reduceLeDiff, Nat.reduceMod, Nat.reduceDiv, true_and, and_true, Int.reduceLE, Int.reduceNeg, Int.reduceLT, Int.cast_ofNat_Int, Nat.zero_le, zI, Int.reduceAdd, Int.reduceSub, Int.reduceMul, not_true_eq_false, not_false_eq_true, false_implies, true_implies, i01_0, i01_1, ite_not, ↓reduceIte, zget_0, zget_1, zget_2, zget_3, zget_4, zget_5, zget_6, zget_7, zget_8, zget_9, zget_10, zset_0, zset_1, zset_2, zset_3, zset_4, zset_5, zset_6, zset_7, zset_8, zset_9, zset_10, kd_171, rf_171_0, rf_171_1, rf_171_3, rf_171_4, rf_171_5, rf_171_6, rf_171_7, rf_171_8, rf_171_10, rf_171_13, rf_171_14, rf_171_15, rf_171_16, rf_171_17, rf_171_20, rf_171_21, rf_171_27, rf_171_28, rf_171_29, rf_171_30, rf_171_31, c_isFreeM, if_pos c1, hlb, c_freeNumber]
    simp only [show ¬ (1 : Int) = 0 by omega, if_false]
    by_cases c2 : lbM (im 172) a ≤ 4
    · by_cases c3 : 0 ≤ fnM (im 172)
      · rw [if_pos (show cpM (im 172) a sl from ⟨c1, c2, c3⟩), if_neg (by omega), if_neg (by omega)]
        simp only [or_true, true_and]
      · rw [if_neg (show ¬ cpM (im 172) a sl from fun q => c3 q.2.2), if_neg (by omega), if_pos (by omega)]
        simp only [true_or, true_and]
    · rw [if_neg (show ¬ cpM (im 172) a sl from fun q => c2 q.2.1), if_pos (by omega)]
      simp only [true_or, true_and]
  · rw [if_neg (show ¬ cpM (im 172) a sl from fun q => c1 q.1)]
    simp (disch := omega) only [en_161, wp_zreturn rk_161, pg_161_0, pg_161_29, pg_161_30, cw_158, cw_159, cw_160, wp_iload, wp_aload, wp_istore, wp_astore, wp_iinc, wp_iconst, wp_dup, wp_dup2, wp_pop, wp_iadd, wp_isub, wp_imul, wp_idiv, wp_irem, wp_ineg, wp_iand, wp_ior, wp_ixor, wp_ishl, wp_ishr, wp_getI, wp_putI, wp_getR, wp_goto, wp_goto_w, wq_if_eq, wq_if_ne, wq_if_lt, wq_if_ge, wq_if_gt, wq_if_le, wq_icmp_eq, wq_icmp_ne, wq_icmp_lt, wq_icmp_ge, wq_icmp_gt, wq_icmp_le, wp_max, wp_min, kI_inl, kR_some, kN_inl, kO_some, KT_none, KT_some, List.length_cons, List.length_nil, Nat.reduceAdd, Nat.reduceLT, Nat.reduceLeDiff, Nat.reduceMod, Nat.reduceDiv, true_and, and_true, Int.reduceLE, Int.reduceNeg, Int.reduceLT, Int.cast_ofNat_Int, Nat.zero_le, zI, Int.reduceAdd, Int.reduceSub, Int.reduceMul, not_true_eq_false, not_false_eq_true, false_implies, true_implies, i01_0, i01_1, ite_not, ↓reduceIte, zget_0, zget_1, zget_2, zget_3, zget_4, zget_5, zget_6, zget_7, zget_8, zget_9, zget_10, zset_0, zset_1, zset_2, zset_3, zset_4, zset_5, zset_6, zset_7, zset_8, zset_9, zset_10, kd_171, rf_171_0, rf_171_1, rf_171_3, rf_171_4, rf_171_5, rf_171_6, rf_171_7, rf_171_8, rf_171_10, rf_171_13, rf_171_14, rf_171_15, rf_171_16, rf_171_17, rf_171_20, rf_171_21, rf_171_27, rf_171_28, rf_171_29, rf_171_30, rf_171_31, c_isFreeM, if_neg c1, if_true, true_or, true_and]
/-- a row without what was given -/
def ofM (A : Int → Int) (e : Int) : Int → Int := fun j => if j = 23 * e + 4 ∨ j = 23 * e + 21 ∨ j = 23 * e + 22 then 0 else if j = 23 * e + 17 ∨ j = 23 * e + 18 ∨ (23 * e + 12 ≤ j ∧ j ≤ 23 * e + 14) ∨ j = 23 * e + 19 ∨ j = 23 * e + 20 then -1 else A j
set_option maxRecDepth 2000 in
theorem c_off (hd : 0 ≤ dv ∧ dv < 20) : CallP (d + 1) 163 [.inr (some 171), .inl dv] im Q ↔ Q none (setc im 172 (ofM (im 172) dv)) := by
  have hp := fun (X : zM) (f v : Int) Q (h : 0 ≤ f ∧ f < 23) => c_put (d := d) (im := X) (dv := dv) (f := f) (v := v) (Q := Q) hd h
  simp (disch := omega) only [en_163, wp_return rk_163, pg_163_0, pg_163_46, pg_163_79, cw_143, wp_iload, wp_aload, wp_istore, wp_astore, wp_iinc, wp_iconst, wp_dup, wp_dup2, wp_pop, wp_iadd, wp_isub, wp_imul, wp_idiv, wp_irem, wp_ineg, wp_iand, wp_ior, wp_ixor, wp_ishl, wp_ishr, wp_getI, wp_putI, wp_getR, wp_goto, wp_goto_w, wq_if_eq, wq_if_ne, wq_if_lt, wq_if_ge, wq_if_gt, wq_if_le, wq_icmp_eq, wq_icmp_ne, wq_icmp_lt, wq_icmp_ge, wq_icmp_gt, wq_icmp_le, wp_max, wp_min, kI_inl, kR_some, kN_inl, kO_some, KT_none, KT_some, List.length_cons, List.length_nil, Nat.reduceAdd, Nat.reduceLT, Nat.reduceLeDiff, Nat.reduceMod, Nat.reduceDiv, true_and, and_true, Int.reduceLE, Int.reduceNeg, Int.reduceLT, Int.cast_ofNat_Int, Nat.zero_le, zI, Int.reduceAdd, Int.reduceSub, Int.reduceMul, not_true_eq_false, not_false_eq_true, false_implies, true_implies, i01_0, i01_1, ite_not, ↓reduceIte, zget_0, zget_1, zget_2, zget_3, zget_4, zget_5, zget_6, zget_7, zget_8, zget_9, zget_10, zset_0, zset_1, zset_2, zset_3, zset_4, zset_5, zset_6, zset_7, zset_8, zset_9, zset_10, kd_171, rf_171_0, rf_171_1, rf_171_3, rf_171_4, rf_171_5, rf_171_6, rf_171_7, rf_171_8, rf_171_10, rf_171_13, rf_171_14, rf_171_15, rf_171_16, rf_171_17, rf_171_20, rf_171_21, rf_171_27, rf_171_28, rf_171_29, rf_171_30, rf_171_31, pg_163_25, pg_163_48, hp, setc_at, setc_setc]
  refine iff_of_eq (congrArg (fun c => Q none (setc im 172 c)) ?_)
  funext j
  simp only [ups, ofM]
  grind
def zrM (A : Int → Int) (e : Int) (f : Int) : Int → Int := fun j => if 23 * e + f ≤ j ∧ j < 23 * e + 23 then 0 else A j
theorem l_zeroM {x1 x2 x3 : zV} (hd : 0 ≤ dv ∧ dv < 20) : ∀ (n : Nat) (f : Int) (X : zM), 0 ≤ f → f + n = 23 → ∀ Q, wp none (d + 2) 162 (zpg 162 9) [.inr (some 171), x1, x2, x3, .inl dv, .inl f] [] X Q ↔ wp none (d + 2) 162 (zpg 162 31) [.inr (some 171), x1, x2, x3, .inl dv, .inl 23] [] (setc X 172 (zrM (X 172) dv f)) Q
  | 0, f, X, h0, h1, Q => by
    have e0 : zrM (X 172) dv f = X 172 := by
      funext j
      unfold zrM
      rw [if_neg (by omega)]
    conv => lhs; rw [pg_162_9]
    simp (disch := omega) only [wp_iload, wp_aload, wp_istore, wp_astore, wp_iinc, wp_iconst, wp_dup, wp_dup2, wp_pop, wp_iadd, wp_isub, wp_imul, wp_idiv, wp_irem, wp_ineg, wp_iand, wp_ior, wp_ixor, wp_ishl, wp_ishr, wp_getI, wp_putI, wp_getR, wp_goto, wp_goto_w, wq_if_eq, wq_if_ne, wq_if_lt, wq_if_ge, wq_if_gt, wq_if_le, wq_icmp_eq, wq_icmp_ne, wq_icmp_lt, wq_icmp_ge, wq_icmp_gt, wq_icmp_le, wp_max, wp_min, kI_inl, kR_some, kN_inl, kO_some, KT_none, KT_some, List.length_cons, List.length_nil, Nat.reduceAdd, Nat.reduceLT, Nat.reduceLeDiff, Nat.reduceMod, Nat.reduceDiv, true_and, and_true, Int.reduceLE, Int.reduceNeg, Int.reduceLT, Int.cast_ofNat_Int, Nat.zero_le, zI, Int.reduceAdd, Int.reduceSub, Int.reduceMul, not_true_eq_false, not_false_eq_true, false_implies, true_implies, i01_0, i01_1, ite_not, ↓reduceIte, zget_0, zget_1, zget_2, zget_3, zget_4, zget_5, zget_6, zget_7, zget_8, zget_9, zget_10, zset_0, zset_1, zset_2, zset_3, zset_4, zset_5, zset_6, zset_7, zset_8, zset_9, zset_10, show 23 ≤ f by omega, if_true, e0, setc_self]
    rw [show f = 23 by omega]
  | n + 1, f, X, h0, h1, Q => by
    have ih := l_zeroM (x1 := x1) (x2 := x2) (x3 := x3) hd n (f + 1) (setc X 172 (ups (X 172) (23 * dv + f) 0)) (by omega) (by omega) Q
    have e0 : zrM (ups (X 172) (23 * dv + f) 0) dv (f + 1) = zrM (X 172) dv f := by
      funext j
      unfold zrM ups
      grind
    rw [setc_at, setc_setc, e0] at ih
    rw [← ih]
    conv => lhs; rw [pg_162_9]
    simp (disch := omega) only [wp_iload, wp_aload, wp_istore, wp_astore, wp_iinc, wp_iconst, wp_dup, wp_dup2, wp_pop, wp_iadd, wp_isub, wp_imul, wp_idiv, wp_irem, wp_ineg, wp_iand, wp_ior, wp_ixor, wp_ishl, wp_ishr, wp_getI, wp_putI, wp_getR, wp_goto, wp_goto_w, wq_if_eq, wq_if_ne, wq_if_lt, wq_if_ge, wq_if_gt, wq_if_le, wq_icmp_eq, wq_icmp_ne, wq_icmp_lt, wq_icmp_ge, wq_icmp_gt, wq_icmp_le, wp_max, wp_min, kI_inl, kR_some, kN_inl, kO_some, KT_none, KT_some, List.length_cons, List.length_nil, Nat.reduceAdd, Nat.reduceLT, Nat.reduceLeDiff, Nat.reduceMod, Nat.reduceDiv, true_and, and_true, Int.reduceLE, Int.reduceNeg, Int.reduceLT, Int.cast_ofNat_Int, Nat.zero_le, zI, Int.reduceAdd, Int.reduceSub, Int.reduceMul, not_true_eq_false, not_false_eq_true, false_implies, true_implies, i01_0, i01_1, ite_not, ↓reduceIte, zget_0, zget_1, zget_2, zget_3, zget_4, zget_5, zget_6, zget_7, zget_8, zget_9, zget_10, zset_0, zset_1, zset_2, zset_3, zset_4, zset_5, zset_6, zset_7, zset_8, zset_9, zset_10, kd_171, rf_171_0, rf_171_1, rf_171_3, rf_171_4, rf_171_5, rf_171_6, rf_171_7, rf_171_8, rf_171_10, rf_171_13, rf_171_14, rf_171_15, rf_171_16, rf_171_17, rf_171_20, rf_171_21, rf_171_27, rf_171_28, rf_171_29, rf_171_30, rf_171_31, cw_143, c_put, show ¬ 23 ≤ f by omega, if_false]
    try (repeat (refine (and_iff_right (by omega)).trans ?_))
    try exact Iff.rfl
/-- a new device in the reference -/
def plM (A : Int → Int) (e a sl wh : Int) : Int → Int := ofM (ups (ups (ups (ups (zrM A e 0) (23 * e + 0) 1) (23 * e + 1) wh) (23 * e + 2) a) (23 * e + 3) sl) e
theorem c_plugMo {wh : Int} (hf : 0 ≤ fnM (im 172)) : CallP (d + 3) 162 [.inr (some 171), .inl a, .inl sl, .inl wh] im Q ↔ Q (some (.inl (fnM (im 172)))) (setc im 172 (plM (im 172) (fnM (im 172)) a sl wh)) := by
  have hc := ff_cases (fun i => !thB (im 172) i) 20 0
  have e0 : fnM (im 172) = ff (fun i => !thB (im 172) i) 20 0 := rfl
  have hd : 0 ≤ fnM (im 172) ∧ fnM (im 172) < 20 := by omega
  have hz := l_zeroM (d := d + 1) (x1 := .inl a) (x2 := .inl sl) (x3 := .inl wh) hd 23 0 im (by omega) (by omega) Q
  have hp := fun (X : zM) (f v : Int) Q (h : 0 ≤ f ∧ f < 23) => c_put (d := d + 2) (im := X) (dv := fnM (im 172)) (f := f) (v := v) (Q := Q) hd h
  have ho := fun (X : zM) Q => c_off (d := d + 1) (im := X) (dv := fnM (im 172)) (Q := Q) hd
  simp (disch := omega) only [en_162, pg_162_0, cw_160, wp_iload, wp_aload, wp_istore, wp_astore, wp_iinc, wp_iconst, wp_dup, wp_dup2, wp_pop, wp_iadd, wp_isub, wp_imul, wp_idiv, wp_irem, wp_ineg, wp_iand, wp_ior, wp_ixor, wp_ishl, wp_ishr, wp_getI, wp_putI, wp_getR, wp_goto, wp_goto_w, wq_if_eq, wq_if_ne, wq_if_lt, wq_if_ge, wq_if_gt, wq_if_le, wq_icmp_eq, wq_icmp_ne, wq_icmp_lt, wq_icmp_ge, wq_icmp_gt, wq_icmp_le, wp_max, wp_min, kI_inl, kR_some, kN_inl, kO_some, KT_none, KT_some, List.length_cons, List.length_nil, Nat.reduceAdd, Nat.reduceLT, Nat.reduceLeDiff, Nat.reduceMod, Nat.reduceDiv, true_and, and_true, Int.reduceLE, Int.reduceNeg, Int.reduceLT, Int.cast_ofNat_Int, Nat.zero_le, zI, Int.reduceAdd, Int.reduceSub, Int.reduceMul, not_true_eq_false, not_false_eq_true, false_implies, true_implies, i01_0, i01_1, ite_not, ↓reduceIte, zget_0, zget_1, zget_2, zget_3, zget_4, zget_5, zget_6, zget_7, zget_8, zget_9, zget_10, zset_0, zset_1, zset_2, zset_3, zset_4, zset_5, zset_6, zset_7, zset_8, zset_9, zset_10, kd_171, rf_171_0, rf_171_1, rf_171_3, rf_171_4, rf_171_5, rf_171_6, rf_171_7, rf_171_8, rf_171_10, rf_171_13, rf_171_14, rf_171_15, rf_171_16, rf_171_17, rf_171_20, rf_171_21, rf_171_27, rf_171_28, rf_171_29, rf_171_30, rf_171_31, c_freeNumber]
  rw [hz, pg_162_31]
  simp (disch := omega) only [wp_ireturn rk_162, pg_162_31, cw_143, cw_160, cw_163, wp_iload, wp_aload, wp_istore, wp_astore, wp_iinc, wp_iconst, wp_dup, wp_dup2, wp_pop, wp_iadd, wp_isub, wp_imul, wp_idiv, wp_irem, wp_ineg, wp_iand, wp_ior, wp_ixor, wp_ishl, wp_ishr, wp_getI, wp_putI, wp_getR, wp_goto, wp_goto_w, wq_if_eq, wq_if_ne, wq_if_lt, wq_if_ge, wq_if_gt, wq_if_le, wq_icmp_eq, wq_icmp_ne, wq_icmp_lt, wq_icmp_ge, wq_icmp_gt, wq_icmp_le, wp_max, wp_min, kI_inl, kR_some, kN_inl, kO_some, KT_none, KT_some, List.length_cons, List.length_nil, Nat.reduceAdd, Nat.reduceLT, Nat.reduceLeDiff, Nat.reduceMod, Nat.reduceDiv, true_and, and_true, Int.reduceLE, Int.reduceNeg, Int.reduceLT, Int.cast_ofNat_Int, Nat.zero_le, zI, Int.reduceAdd, Int.reduceSub, Int.reduceMul, not_true_eq_false, not_false_eq_true, false_implies, true_implies, i01_0, i01_1, ite_not, ↓reduceIte, zget_0, zget_1, zget_2, zget_3, zget_4, zget_5, zget_6, zget_7, zget_8, zget_9, zget_10, zset_0, zset_1, zset_2, zset_3, zset_4, zset_5, zset_6, zset_7, zset_8, zset_9, zset_10, kd_171, rf_171_0, rf_171_1, rf_171_3, rf_171_4, rf_171_5, rf_171_6, rf_171_7, rf_171_8, rf_171_10, rf_171_13, rf_171_14, rf_171_15, rf_171_16, rf_171_17, rf_171_20, rf_171_21, rf_171_27, rf_171_28, rf_171_29, rf_171_30, rf_171_31, hp, ho, setc_at, setc_setc, plM]
end MP
