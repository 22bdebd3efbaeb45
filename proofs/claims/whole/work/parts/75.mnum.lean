/-! THE REFERENCE: numbering, refusing -/
section MP2
variable {d : Nat} {im : zM} {Q : Option zV → zM → Prop} {a b v dv kd sl i j k f e bu t o : Int}
abbrev zNu : Type := (Int → Int) × (Int → Int) × Int × Int
def nbm (X : zM) (s : zNu) : zM := setc (setc (setc X 172 s.1) 180 s.2.1) 171 (ups (ups (X 171) 11 s.2.2.1) 12 s.2.2.2)
theorem nbm_o {X : zM} {s : zNu} {p : Nat} (h : p ≠ 171) (h1 : p ≠ 172) (h2 : p ≠ 180) : nbm X s p = X p := by
  unfold nbm
  rw [setc_ne _ _ h, setc_ne _ _ h2, setc_ne _ _ h1]
theorem nbm_A {X : zM} {s : zNu} : nbm X s 172 = s.1 := by
  unfold nbm
  rw [setc_ne _ _ (by omega), setc_ne _ _ (by omega), setc_at]
theorem nbm_O {X : zM} {s : zNu} : nbm X s 180 = s.2.1 := by
  unfold nbm
  rw [setc_ne _ _ (by omega), setc_at]
theorem nbm_p {X : zM} {s : zNu} : nbm X s 171 11 = s.2.2.1 := by
  unfold nbm
  rw [setc_at, ups_ne _ _ (by omega), ups_at]
theorem nbm_x {X : zM} {s : zNu} : nbm X s 171 12 = s.2.2.2 := by
  unfold nbm
  rw [setc_at, ups_at]
theorem nbm_f {X : zM} {s : zNu} (h : f ≠ 11) (h1 : f ≠ 12) : nbm X s 171 f = X 171 f := by
  unfold nbm
  rw [setc_at, ups_ne _ _ h1, ups_ne _ _ h]
theorem nbm_sA {X : zM} {s : zNu} {c : Int → Int} : setc (nbm X s) 172 c = nbm X (c, s.2) := by
  unfold nbm
  rw [setc_comm _ _ _ (show (171 : Nat) ≠ 172 by omega), setc_comm _ _ _ (show (180 : Nat) ≠ 172 by omega), setc_setc]
theorem nbm_sO {X : zM} {s : zNu} {c : Int → Int} : setc (nbm X s) 180 c = nbm X (s.1, c, s.2.2) := by
  unfold nbm
  rw [setc_comm _ _ _ (show (171 : Nat) ≠ 180 by omega), setc_setc]
theorem nbm_sp {X : zM} {s : zNu} : setc (nbm X s) 171 (ups (nbm X s 171) 11 v) = nbm X (s.1, s.2.1, v, s.2.2.2) := by
  unfold nbm
  rw [setc_at, setc_setc]
  congr 1
  funext j
  unfold ups
  grind
theorem nbm_sx {X : zM} {s : zNu} : setc (nbm X s) 171 (ups (nbm X s 171) 12 v) = nbm X (s.1, s.2.1, s.2.2.1, v) := by
  unfold nbm
  rw [setc_at, setc_setc, ups_ups]
def nmL (s : zNu) : Int := if s.2.2.2 - 1 + s.1 (23 * s.2.1 (s.2.2.1 - 1) + 15) < 31 then s.2.2.2 - 1 + s.1 (23 * s.2.1 (s.2.2.1 - 1) + 15) else 31
def clF (s : zNu) : zNu := (ups s.1 (23 * s.2.1 (s.2.2.1 - 1) + 18) (nmL s), s.2.1, s.2.2.1 - 1, nmL s + 1)
/-- numbering goes well -/
def NuI (A0 : Int → Int) (s : zNu) : Prop := (∀ j : Int, 0 ≤ j → j < s.2.2.1 → 0 ≤ s.2.1 j ∧ s.2.1 j < 20) ∧ (0 ≤ s.2.2.1 ∧ s.2.2.1 ≤ 6) ∧ (1 ≤ s.2.2.2 ∧ s.2.2.2 ≤ 32) ∧ ∀ e f : Int, 0 ≤ e → e < 20 → 0 ≤ f → f < 23 → f ≠ 17 → f ≠ 18 → s.1 (23 * e + f) = A0 (23 * e + f)
theorem nmL_bd {A0 : Int → Int} {s : zNu} (hg : MG A0) (h : NuI A0 s) (hp : 1 ≤ s.2.2.1) : 0 ≤ nmL s ∧ nmL s ≤ 31 ∧ s.2.2.2 - 1 ≤ nmL s ∧ (0 ≤ s.1 (23 * s.2.1 (s.2.2.1 - 1) + 15) ∧ s.1 (23 * s.2.1 (s.2.2.1 - 1) + 15) ≤ 3) := by
  have ho := h.1 (s.2.2.1 - 1) (by omega) (by omega)
  have hl := (hg _ ho.1 ho.2).2.2.2.2.2.2.1
  have e1 := h.2.2.2 (s.2.1 (s.2.2.1 - 1)) 15 ho.1 ho.2 (by omega) (by omega) (by omega) (by omega)
  have h3 := h.2.2.1
  rw [e1]
  unfold nmL
  rw [e1]
  split <;> omega
theorem clF_I {A0 : Int → Int} {s : zNu} (hg : MG A0) (h : NuI A0 s) (hp : 1 ≤ s.2.2.1) : NuI A0 (clF s) := by
  have hb := nmL_bd hg h hp
  have ho := h.1 (s.2.2.1 - 1) (by omega) (by omega)
  have h2 := h.2.1
  refine ⟨fun j q0 q1 => h.1 j q0 (by unfold clF at q1; dsimp only at q1; omega), by unfold clF; dsimp only; omega, by unfold clF; dsimp only; omega, fun e f q0 q1 q2 q3 q4 q5 => ?_⟩
  unfold clF
  dsimp only
  rw [ups_ne _ _ (by omega)]
  exact h.2.2.2 e f q0 q1 q2 q3 q4 q5
theorem c_close {X : zM} {A0 : Int → Int} {s : zNu} (hg : MG A0) (h : NuI A0 s) (hp : 1 ≤ s.2.2.1) : CallP (d + 1) 182 [.inr (some 171)] (nbm X s) Q ↔ Q none (nbm X (clF s)) := by
  have hb := nmL_bd hg h hp
  have ho := h.1 (s.2.2.1 - 1) (by omega) (by omega)
  have h2 := h.2.1
  have h3 := h.2.2.1
  have hof := fun (s' : zNu) (f : Int) Q (q : 0 ≤ f ∧ f < 23) => c_of (d := d) (im := nbm X s') (dv := s.2.1 (s.2.2.1 - 1)) (f := f) (Q := Q) ho q
  have hpt := fun (s' : zNu) (f v : Int) Q (q : 0 ≤ f ∧ f < 23) => c_put (d := d) (im := nbm X s') (dv := s.2.1 (s.2.2.1 - 1)) (f := f) (v := v) (Q := Q) ho q
  simp only [nbm_A, nbm_sA] at hof hpt
  by_cases c : s.2.2.2 - 1 + s.1 (23 * s.2.1 (s.2.2.1 - 1) + 15) < 31
  · have el : nmL s = s.2.2.2 - 1 + s.1 (23 * s.2.1 (s.2.2.1 - 1) + 15) := if_pos c
    have ec : clF s = (ups s.1 (23 * s.2.1 (s.2.2.1 - 1) + 18) (s.2.2.2 - 1 + s.1 (23 * s.2.1 (s.2.2.1 - 1) + 15)), s.2.1, s.2.2.1 - 1, s.2.2.2 - 1 + s.1 (23 * s.2.1 (s.2.2.1 - 1) + 15) + 1) := by
      unfold clF
      rw [el]
    rw [ec]
    simp (disch := omega) only [en_182, wp_return rk_182, pg_182_0, pg_182_49, pg_182_51, cw_142, cw_143, wp_iload, wp_aload, wp_istore, wp_astore, wp_iinc, wp_iconst, wp_dup, wp_dup2, wp_pop, wp_iadd, wp_isub, wp_imul, wp_idiv, wp_irem, wp_ineg, wp_iand, wp_ior, wp_ixor, wp_ishl, wp_ishr, wp_getI, wp_putI, wp_getR, wp_goto, wp_goto_w, wq_if_eq, wq_if_ne, wq_if_lt, wq_if_ge, wq_if_gt, wq_if_le, wq_icmp_eq, wq_icmp_ne, wq_icmp_lt, wq_icmp_ge, wq_icmp_gt, wq_icmp_le, wp_max, wp_min, kI_inl, kR_some, kN_inl, kO_some, KT_none, KT_some, List.length_cons, List.length_nil, Nat.reduceAdd, Nat.reduceLT, Nat.reduceLeDiff, Nat.reduceMod, Nat.reduceDiv, true_and, and_true, Int.reduceLE, Int.reduceNeg, Int.reduceLT, Int.cast_ofNat_Int, Nat.zero_le, zI, Int.reduceAdd, Int.reduceSub, Int.reduceMul, not_true_eq_false, not_false_eq_true, false_implies, true_implies, i01_0, i01_1, ite_not, ↓reduceIte, zget_0, zget_1, zget_2, zget_3, zget_4, zget_5, zget_6, zget_7, zget_8, zget_9, zget_10, zset_0, zset_1, zset_2, zset_3, zset_4, zset_5, zset_6, zset_7, zset_8, zset_9, zset_10, kd_171, rf_171_0, rf_171_1, rf_171_3, rf_171_4, rf_171_5, rf_171_6, rf_171_7, rf_171_8, rf_171_10, rf_171_13, rf_171_14, rf_171_15, rf_171_16, rf_171_17, rf_171_20, rf_171_21, rf_171_27, rf_171_28, rf_171_29, rf_171_30, rf_171_31, wp_iaload kd_180, nbm_p, nbm_x, nbm_O, zu_setc, nbm_sp, nbm_sx, hof, hpt, ups_at, show ¬ 31 ≤ s.2.2.2 - 1 + s.1 (23 * s.2.1 (s.2.2.1 - 1) + 15) by omega, if_false]
    try (repeat (refine (and_iff_right (by omega)).trans ?_))
    try exact Iff.rfl
  · have el : nmL s = 31 := if_neg c
    have ec : clF s = (ups s.1 (23 * s.2.1 (s.2.2.1 - 1) + 18) 31, s.2.1, s.2.2.1 - 1, 31 + 1) := by
      unfold clF
      rw [el]
    rw [ec]
    simp (disch := omega) only [en_182, wp_return rk_182, pg_182_0, pg_182_49, pg_182_51, cw_142, cw_143, wp_iload, wp_aload, wp_istore, wp_astore, wp_iinc, wp_iconst, wp_dup, wp_dup2, wp_pop, wp_iadd, wp_isub, wp_imul, wp_idiv, wp_irem, wp_ineg, wp_iand, wp_ior, wp_ixor, wp_ishl, wp_ishr, wp_getI, wp_putI, wp_getR, wp_goto, wp_goto_w, wq_if_eq, wq_if_ne, wq_if_lt, wq_if_ge, wq_if_gt, wq_if_le, wq_icmp_eq, wq_icmp_ne, wq_icmp_lt, wq_icmp_ge, wq_icmp_gt, wq_icmp_le, wp_max, wp_min, kI_inl, kR_some, kN_inl, kO_some, KT_none, KT_some, List.length_cons, List.length_nil, Nat.reduceAdd, Nat.reduceLT, Nat.reduceLeDiff, Nat.reduceMod, Nat.reduceDiv, true_and, and_true, Int.reduceLE, Int.reduceNeg, Int.reduceLT, Int.cast_ofNat_Int, Nat.zero_le, zI, Int.reduceAdd, Int.reduceSub, Int.reduceMul, not_true_eq_false, not_false_eq_true, false_implies, true_implies, i01_0, i01_1, ite_not, ↓reduceIte, zget_0, zget_1, zget_2, zget_3, zget_4, zget_5, zget_6, zget_7, zget_8, zget_9, zget_10, zset_0, zset_1, zset_2, zset_3, zset_4, zset_5, zset_6, zset_7, zset_8, zset_9, zset_10, kd_171, rf_171_0, rf_171_1, rf_171_3, rf_171_4, rf_171_5, rf_171_6, rf_171_7, rf_171_8, rf_171_10, rf_171_13, rf_171_14, rf_171_15, rf_171_16, rf_171_17, rf_171_20, rf_171_21, rf_171_27, rf_171_28, rf_171_29, rf_171_30, rf_171_31, wp_iaload kd_180, nbm_p, nbm_x, nbm_O, zu_setc, nbm_sp, nbm_sx, hof, hpt, ups_at, show 31 ≤ s.2.2.2 - 1 + s.1 (23 * s.2.1 (s.2.2.1 - 1) + 15) by omega, if_true]
    try (repeat (refine (and_iff_right (by omega)).trans ?_))
    try exact Iff.rfl
def clW (at' : Int) : Nat → zNu → zNu
  | 0, s => s
  | n + 1, s => if s.2.1 (s.2.2.1 - 1) = at' then s else clW at' n (clF s)
theorem l_clW {X : zM} {A0 : Int → Int} (hg : MG A0) {x1 x2 x3 : zV} {at' : Int} : ∀ (n : Nat) (s : zNu), NuI A0 s → s.2.2.1 = n → NuI A0 (clW at' n s) ∧ (clW at' n s).2.2.1 ≤ s.2.2.1 ∧ ∀ Q, wp none (d + 4) 183 (zpg 183 58) [.inr (some 171), x1, x2, x3, .inl at'] [] (nbm X s) Q ↔ wp none (d + 4) 183 (zpg 183 88) [.inr (some 171), x1, x2, x3, .inl at'] [] (nbm X (clW at' n s)) Q
  | 0, s, h, hn => by
    refine ⟨h, Int.le_refl _, fun Q => ?_⟩
    conv => lhs; rw [pg_183_58]
    simp (disch := omega) only [wp_iload, wp_aload, wp_istore, wp_astore, wp_iinc, wp_iconst, wp_dup, wp_dup2, wp_pop, wp_iadd, wp_isub, wp_imul, wp_idiv, wp_irem, wp_ineg, wp_iand, wp_ior, wp_ixor, wp_ishl, wp_ishr, wp_getI, wp_putI, wp_getR, wp_goto, wp_goto_w, wq_if_eq, wq_if_ne, wq_if_lt, wq_if_ge, wq_if_gt, wq_if_le, wq_icmp_eq, wq_icmp_ne, wq_icmp_lt, wq_icmp_ge, wq_icmp_gt, wq_icmp_le, wp_max, wp_min, kI_inl, kR_some, kN_inl, kO_some, KT_none, KT_some, List.length_cons, List.length_nil, Nat.reduceAdd, Nat.reduceLT, Nat.reduceLeDiff, Nat.reduceMod, Nat.reduceDiv, true_and, and_true, Int.reduceLE, Int.reduceNeg, Int.reduceLT, Int.cast_ofNat_Int, Nat.zero_le, zI, Int.reduceAdd, Int.reduceSub, Int.reduceMul, not_true_eq_false, not_false_eq_true, false_implies, true_implies, i01_0, i01_1, ite_not, ↓reduceIte, zget_0, zget_1, zget_2, zget_3, zget_4, zget_5, zget_6, zget_7, zget_8, zget_9, zget_10, zset_0, zset_1, zset_2, zset_3, zset_4, zset_5, zset_6, zset_7, zset_8, zset_9, zset_10, kd_171, rf_171_0, rf_171_1, rf_171_3, rf_171_4, rf_171_5, rf_171_6, rf_171_7, rf_171_8, rf_171_10, rf_171_13, rf_171_14, rf_171_15, rf_171_16, rf_171_17, rf_171_20, rf_171_21, rf_171_27, rf_171_28, rf_171_29, rf_171_30, rf_171_31, nbm_p, show s.2.2.1 ≤ 0 by omega, if_true, clW]
  | n + 1, s, h, hn => by
    have h2 := h.2.1
    by_cases c : s.2.1 (s.2.2.1 - 1) = at'
    · have ec : clW at' (n + 1) s = s := if_pos c
      rw [ec]
      refine ⟨h, Int.le_refl _, fun Q => ?_⟩
      conv => lhs; rw [pg_183_58]
      simp (disch := omega) only [wp_iload, wp_aload, wp_istore, wp_astore, wp_iinc, wp_iconst, wp_dup, wp_dup2, wp_pop, wp_iadd, wp_isub, wp_imul, wp_idiv, wp_irem, wp_ineg, wp_iand, wp_ior, wp_ixor, wp_ishl, wp_ishr, wp_getI, wp_putI, wp_getR, wp_goto, wp_goto_w, wq_if_eq, wq_if_ne, wq_if_lt, wq_if_ge, wq_if_gt, wq_if_le, wq_icmp_eq, wq_icmp_ne, wq_icmp_lt, wq_icmp_ge, wq_icmp_gt, wq_icmp_le, wp_max, wp_min, kI_inl, kR_some, kN_inl, kO_some, KT_none, KT_some, List.length_cons, List.length_nil, Nat.reduceAdd, Nat.reduceLT, Nat.reduceLeDiff, Nat.reduceMod, Nat.reduceDiv, true_and, and_true, Int.reduceLE, Int.reduceNeg, Int.reduceLT, Int.cast_ofNat_Int, Nat.zero_le, zI, Int.reduceAdd, Int.reduceSub, Int.reduceMul, not_true_eq_false, not_false_eq_true, false_implies, true_implies, i01_0, i01_1, ite_not, ↓reduceIte, zget_0, zget_1, zget_2, zget_3, zget_4, zget_5, zget_6, zget_7, zget_8, zget_9, zget_10, zset_0, zset_1, zset_2, zset_3, zset_4, zset_5, zset_6, zset_7, zset_8, zset_9, zset_10, kd_171, rf_171_0, rf_171_1, rf_171_3, rf_171_4, rf_171_5, rf_171_6, rf_171_7, rf_171_8, rf_171_10, rf_171_13, rf_171_14, rf_171_15, rf_171_16, rf_171_17, rf_171_20, rf_171_21, rf_171_27, rf_171_28, rf_171_29, rf_171_30, rf_171_31, nbm_p, nbm_O, wp_iaload kd_180, show ¬ s.2.2.1 ≤ 0 by omega, if_false, c, if_true]
      try (repeat (refine (and_iff_right (by omega)).trans ?_))
      try exact Iff.rfl
    · have ec : clW at' (n + 1) s = clW at' n (clF s) := if_neg c
      have hcl := fun Q => c_close (d := d + 2) (X := X) (Q := Q) hg h (by omega)
      have ih := l_clW (X := X) hg (x1 := x1) (x2 := x2) (x3 := x3) (at' := at') n (clF s) (clF_I hg h (by omega)) (by unfold clF; dsimp only; omega)
      rw [ec]
      refine ⟨ih.1, by have := ih.2.1; have e9 : (clF s).2.2.1 = s.2.2.1 - 1 := rfl; omega, fun Q => ?_⟩
      rw [← ih.2.2 Q]
      conv => lhs; rw [pg_183_58]
      simp (disch := omega) only [cw_182, wp_iload, wp_aload, wp_istore, wp_astore, wp_iinc, wp_iconst, wp_dup, wp_dup2, wp_pop, wp_iadd, wp_isub, wp_imul, wp_idiv, wp_irem, wp_ineg, wp_iand, wp_ior, wp_ixor, wp_ishl, wp_ishr, wp_getI, wp_putI, wp_getR, wp_goto, wp_goto_w, wq_if_eq, wq_if_ne, wq_if_lt, wq_if_ge, wq_if_gt, wq_if_le, wq_icmp_eq, wq_icmp_ne, wq_icmp_lt, wq_icmp_ge, wq_icmp_gt, wq_icmp_le, wp_max, wp_min, kI_inl, kR_some, kN_inl, kO_some, KT_none, KT_some, List.length_cons, List.length_nil, Nat.reduceAdd, Nat.reduceLT, Nat.reduceLeDiff, Nat.reduceMod, Nat.reduceDiv, true_and, and_true, Int.reduceLE, Int.reduceNeg, Int.reduceLT, Int.cast_ofNat_Int, Nat.zero_le, zI, Int.reduceAdd, Int.reduceSub, Int.reduceMul, not_true_eq_false, not_false_eq_true, false_implies, true_implies, i01_0, i01_1, ite_not, ↓reduceIte, zget_0, zget_1, zget_2, zget_3, zget_4, zget_5, zget_6, zget_7, zget_8, zget_9, zget_10, zset_0, zset_1, zset_2, zset_3, zset_4, zset_5, zset_6, zset_7, zset_8, zset_9, zset_10, kd_171, rf_171_0, rf_171_1, rf_171_3, rf_171_4, rf_171_5, rf_171_6, rf_171_7, rf_171_8, rf_171_10, rf_171_13, rf_171_14, rf_171_15, rf_171_16, rf_171_17, rf_171_20, rf_171_21, rf_171_27, rf_171_28, rf_171_29, rf_171_30, rf_171_31, nbm_p, nbm_O, wp_iaload kd_180, show ¬ s.2.2.1 ≤ 0 by omega, if_false, c, hcl]
      try (repeat (refine (and_iff_right (by omega)).trans ?_))
      try exact Iff.rfl
def clA : Nat → zNu → zNu
  | 0, s => s
  | n + 1, s => clA n (clF s)
theorem l_clA {X : zM} {A0 : Int → Int} (hg : MG A0) {v : Int} {x2 x3 x4 : zV} : ∀ (n : Nat) (s : zNu), NuI A0 s → s.2.2.1 = n → NuI A0 (clA n s) ∧ ∀ Q, wp none (d + 4) 183 (zpg 183 163) [.inr (some 171), .inl v, x2, x3, x4] [] (nbm X s) Q ↔ Q (some (.inl v)) (nbm X (clA n s))
  | 0, s, h, hn => by
    refine ⟨h, fun Q => ?_⟩
    rw [pg_183_163]
    simp (disch := omega) only [wp_ireturn rk_183, pg_183_177, wp_iload, wp_aload, wp_istore, wp_astore, wp_iinc, wp_iconst, wp_dup, wp_dup2, wp_pop, wp_iadd, wp_isub, wp_imul, wp_idiv, wp_irem, wp_ineg, wp_iand, wp_ior, wp_ixor, wp_ishl, wp_ishr, wp_getI, wp_putI, wp_getR, wp_goto, wp_goto_w, wq_if_eq, wq_if_ne, wq_if_lt, wq_if_ge, wq_if_gt, wq_if_le, wq_icmp_eq, wq_icmp_ne, wq_icmp_lt, wq_icmp_ge, wq_icmp_gt, wq_icmp_le, wp_max, wp_min, kI_inl, kR_some, kN_inl, kO_some, KT_none, KT_some, List.length_cons, List.length_nil, Nat.reduceAdd, Nat.reduceLT, Nat.reduceLeDiff, Nat.reduceMod, Nat.reduceDiv, true_and, and_true, Int.reduceLE, Int.reduceNeg, Int.reduceLT, Int.cast_ofNat_Int, Nat.zero_le, zI, Int.reduceAdd, Int.reduceSub, Int.reduceMul, not_true_eq_false, not_false_eq_true, false_implies, true_implies, i01_0, i01_1, ite_not, ↓reduceIte, zget_0, zget_1, zget_2, zget_3, zget_4, zget_5, zget_6, zget_7, zget_8, zget_9, zget_10, zset_0, zset_1, zset_2, zset_3, zset_4, zset_5, zset_6, zset_7, zset_8, zset_9, zset_10, kd_171, rf_171_0, rf_171_1, rf_171_3, rf_171_4, rf_171_5, rf_171_6, rf_171_7, rf_171_8, rf_171_10, rf_171_13, rf_171_14, rf_171_15, rf_171_16, rf_171_17, rf_171_20, rf_171_21, rf_171_27, rf_171_28, rf_171_29, rf_171_30, rf_171_31, nbm_p, show s.2.2.1 ≤ 0 by omega, if_true, clA]
  | n + 1, s, h, hn => by
    have hcl := fun Q => c_close (d := d + 2) (X := X) (Q := Q) hg h (by omega)
    have ih := l_clA (X := X) hg (v := v) (x2 := x2) (x3 := x3) (x4 := x4) n (clF s) (clF_I hg h (by omega)) (by unfold clF; dsimp only; omega)
    refine ⟨ih.1, fun Q => ?_⟩
    rw [show clA (n + 1) s = clA n (clF s) from rfl, ← ih.2 Q]
    conv => lhs; rw [pg_183_163]
    simp (disch := omega) only [cw_182, wp_iload, wp_aload, wp_istore, wp_astore, wp_iinc, wp_iconst, wp_dup, wp_dup2, wp_pop, wp_iadd, wp_isub, wp_imul, wp_idiv, wp_irem, wp_ineg, wp_iand, wp_ior, wp_ixor, wp_ishl, wp_ishr, wp_getI, wp_putI, wp_getR, wp_goto, wp_goto_w, wq_if_eq, wq_if_ne, wq_if_lt, wq_if_ge, wq_if_gt, wq_if_le, wq_icmp_eq, wq_icmp_ne, wq_icmp_lt, wq_icmp_ge, wq_icmp_gt, wq_icmp_le, wp_max, wp_min, kI_inl, kR_some, kN_inl, kO_some, KT_none, KT_some, List.length_cons, List.length_nil, Nat.reduceAdd, Nat.reduceLT, Nat.reduceLeDiff, Nat.reduceMod, Nat.reduceDiv, true_and, and_true, Int.reduceLE, Int.reduceNeg, Int.reduceLT, Int.cast_ofNat_Int, Nat.zero_le, zI, Int.reduceAdd, Int.reduceSub, Int.reduceMul, not_true_eq_false, not_false_eq_true, false_implies, true_implies, i01_0, i01_1, ite_not, ↓reduceIte, zget_0, zget_1, zget_2, zget_3, zget_4, zget_5, zget_6, zget_7, zget_8, zget_9, zget_10, zset_0, zset_1, zset_2, zset_3, zset_4, zset_5, zset_6, zset_7, zset_8, zset_9, zset_10, kd_171, rf_171_0, rf_171_1, rf_171_3, rf_171_4, rf_171_5, rf_171_6, rf_171_7, rf_171_8, rf_171_10, rf_171_13, rf_171_14, rf_171_15, rf_171_16, rf_171_17, rf_171_20, rf_171_21, rf_171_27, rf_171_28, rf_171_29, rf_171_30, rf_171_31, nbm_p, show ¬ s.2.2.1 ≤ 0 by omega, if_false, hcl]
abbrev zNo : Type := zNu × (Int → Bool)
def adB (p : Int → Bool) (e : Int) : Int → Bool := fun i => p i || decide (i = e)
def nuF (o : Int → Int) (i : Int) (y : zNo) : zNo :=
  if 0 ≤ y.1.1 (23 * o i + 2) ∧ y.2 (y.1.1 (23 * o i + 2)) = false then y
  else if (clW (y.1.1 (23 * o i + 2)) y.1.2.2.1.toNat y.1).1 (23 * o i + 1) = 1 then
    (if 31 < (clW (y.1.1 (23 * o i + 2)) y.1.2.2.1.toNat y.1).2.2.2 then (clW (y.1.1 (23 * o i + 2)) y.1.2.2.1.toNat y.1, y.2)
     else ((ups (clW (y.1.1 (23 * o i + 2)) y.1.2.2.1.toNat y.1).1 (23 * o i + 17) (clW (y.1.1 (23 * o i + 2)) y.1.2.2.1.toNat y.1).2.2.2, ups (clW (y.1.1 (23 * o i + 2)) y.1.2.2.1.toNat y.1).2.1 (clW (y.1.1 (23 * o i + 2)) y.1.2.2.1.toNat y.1).2.2.1 (o i), (clW (y.1.1 (23 * o i + 2)) y.1.2.2.1.toNat y.1).2.2.1 + 1, (clW (y.1.1 (23 * o i + 2)) y.1.2.2.1.toNat y.1).2.2.2 + 1), adB y.2 (o i)))
  else (clW (y.1.1 (23 * o i + 2)) y.1.2.2.1.toNat y.1, adB y.2 (o i))
/-- the stack never holds more than it can -/
def NuP (o : Int → Int) : Nat → Int → zNo → Prop
  | 0, _, _ => True
  | n + 1, i, y => (clW (y.1.1 (23 * o i + 2)) y.1.2.2.1.toNat y.1).2.2.1 ≤ 5 ∧ NuP o n (i + 1) (nuF o i y)
theorem l_nu {X : zM} {A0 : Int → Int} (hg : MG A0) {o : Int → Int} {N : Int} (hN : X 171 2 = N) (hN2 : 0 ≤ N ∧ N ≤ 20) (ho : X 173 = o) (hth : ∀ j : Int, 0 ≤ j → j < N → 0 ≤ o j ∧ o j < 20) : ∀ (n : Nat) (i : Int) (y : zNo) (x3 x4 : zV), 0 ≤ i → i + n = N → NuI A0 y.1 → NuP o n i y → NuI A0 (lp (nuF o) n i y).1 ∧ ∃ x3' x4', ∀ Q, wp none (d + 4) 183 (zpg 183 18) [.inr (some 171), .inl (bs y.2), .inl i, x3, x4] [] (nbm X y.1) Q ↔ wp none (d + 4) 183 (zpg 183 163) [.inr (some 171), .inl (bs (lp (nuF o) n i y).2), .inl N, x3', x4'] [] (nbm X (lp (nuF o) n i y).1) Q
  | 0, i, y, x3, x4, h0, h1, hI, hP => by
    have e2 : nbm X y.1 171 2 = N := by rw [nbm_f (by omega) (by omega)]; exact hN
    refine ⟨hI, x3, x4, fun Q => ?_⟩
    conv => lhs; rw [pg_183_18]
    simp (disch := omega) only [wp_iload, wp_aload, wp_istore, wp_astore, wp_iinc, wp_iconst, wp_dup, wp_dup2, wp_pop, wp_iadd, wp_isub, wp_imul, wp_idiv, wp_irem, wp_ineg, wp_iand, wp_ior, wp_ixor, wp_ishl, wp_ishr, wp_getI, wp_putI, wp_getR, wp_goto, wp_goto_w, wq_if_eq, wq_if_ne, wq_if_lt, wq_if_ge, wq_if_gt, wq_if_le, wq_icmp_eq, wq_icmp_ne, wq_icmp_lt, wq_icmp_ge, wq_icmp_gt, wq_icmp_le, wp_max, wp_min, kI_inl, kR_some, kN_inl, kO_some, KT_none, KT_some, List.length_cons, List.length_nil, Nat.reduceAdd, Nat.reduceLT, Nat.reduceLeDiff, Nat.reduceMod, Nat.reduceDiv, true_and, and_true, Int.reduceLE, Int.reduceNeg, Int.reduceLT, Int.cast_ofNat_Int, Nat.zero_le, zI, Int.reduceAdd, Int.reduceSub, Int.reduceMul, not_true_eq_false, not_false_eq_true, false_implies, true_implies, i01_0, i01_1, ite_not, ↓reduceIte, zget_0, zget_1, zget_2, zget_3, zget_4, zget_5, zget_6, zget_7, zget_8, zget_9, zget_10, zset_0, zset_1, zset_2, zset_3, zset_4, zset_5, zset_6, zset_7, zset_8, zset_9, zset_10, kd_171, rf_171_0, rf_171_1, rf_171_3, rf_171_4, rf_171_5, rf_171_6, rf_171_7, rf_171_8, rf_171_10, rf_171_13, rf_171_14, rf_171_15, rf_171_16, rf_171_17, rf_171_20, rf_171_21, rf_171_27, rf_171_28, rf_171_29, rf_171_30, rf_171_31, e2, show N ≤ i by omega, if_true, lp]
    rw [show i = N by omega]
  | n + 1, i, y, x3, x4, h0, h1, hI, hP => by
    have e2 : ∀ s, nbm X s 171 2 = N := fun s => by rw [nbm_f (by omega) (by omega)]; exact hN
    have e3 : ∀ s, nbm X s 173 = o := fun s => by rw [nbm_o (by omega) (by omega) (by omega)]; exact ho
    have hoi := hth i h0 (by omega)
    have hat := MG_at hg hoi
    have eat : y.1.1 (23 * o i + 2) = A0 (23 * o i + 2) := hI.2.2.2 (o i) 2 hoi.1 hoi.2 (by omega) (by omega) (by omega) (by omega)
    have hof := fun (s' : zNu) (f : Int) Q (q : 0 ≤ f ∧ f < 23) => c_of (d := d + 3) (im := nbm X s') (dv := o i) (f := f) (Q := Q) hoi q
    have hpt := fun (s' : zNu) (f v : Int) Q (q : 0 ≤ f ∧ f < 23) => c_put (d := d + 3) (im := nbm X s') (dv := o i) (f := f) (v := v) (Q := Q) hoi q
    simp only [nbm_A, nbm_sA] at hof hpt
    obtain ⟨hp5, hPn⟩ := hP
    have hcw := l_clW (d := d) (X := X) (A0 := A0) hg (x1 := .inl (bs y.2)) (x2 := .inl i) (x3 := .inl (o i)) (at' := y.1.1 (23 * o i + 2)) y.1.2.2.1.toNat y.1 hI (by have := hI.2.1; omega)
    simp only [lp]
    by_cases c1 : 0 ≤ y.1.1 (23 * o i + 2) ∧ y.2 (y.1.1 (23 * o i + 2)) = false
    · have ec : nuF o i y = y := if_pos c1
      rw [ec] at hPn ⊢
      obtain ⟨i1, x3', x4', ih⟩ := l_nu (X := X) hg hN hN2 ho hth n (i + 1) y (.inl (o i)) (.inl (y.1.1 (23 * o i + 2))) (by omega) (by omega) hI hPn
      refine ⟨i1, x3', x4', fun Q => ?_⟩
      rw [← ih Q]
      have hcb := fun Q => c_bit (d := d + 3) (im := nbm X y.1) (p := y.2) (e := y.1.1 (23 * o i + 2)) (Q := Q) (by omega)
      conv => lhs; rw [pg_183_18]
      simp (disch := omega) only [cw_142, cw_149, pg_183_157, wp_iload, wp_aload, wp_istore, wp_astore, wp_iinc, wp_iconst, wp_dup, wp_dup2, wp_pop, wp_iadd, wp_isub, wp_imul, wp_idiv, wp_irem, wp_ineg, wp_iand, wp_ior, wp_ixor, wp_ishl, wp_ishr, wp_getI, wp_putI, wp_getR, wp_goto, wp_goto_w, wq_if_eq, wq_if_ne, wq_if_lt, wq_if_ge, wq_if_gt, wq_if_le, wq_icmp_eq, wq_icmp_ne, wq_icmp_lt, wq_icmp_ge, wq_icmp_gt, wq_icmp_le, wp_max, wp_min, kI_inl, kR_some, kN_inl, kO_some, KT_none, KT_some, List.length_cons, List.length_nil, Nat.reduceAdd, Nat.reduceLT, Nat.reduceLeDiff, Nat.reduceMod, Nat.reduceDiv, true_and, and_true, Int.reduceLE, Int.reduceNeg, Int.reduceLT, Int.cast_ofNat_Int, Nat.zero_le, zI, Int.reduceAdd, Int.reduceSub, Int.reduceMul, not_true_eq_false, not_false_eq_true, false_implies, true_implies, i01_0, i01_1, ite_not, ↓reduceIte, zget_0, zget_1, zget_2, zget_3, zget_4, zget_5, zget_6, zget_7, zget_8, zget_9, zget_10, zset_0, zset_1, zset_2, zset_3, zset_4, zset_5, zset_6, zset_7, zset_8, zset_9, zset_10, kd_171, rf_171_0, rf_171_1, rf_171_3, rf_171_4, rf_171_5, rf_171_6, rf_171_7, rf_171_8, rf_171_10, rf_171_13, rf_171_14, rf_171_15, rf_171_16, rf_171_17, rf_171_20, rf_171_21, rf_171_27, rf_171_28, rf_171_29, rf_171_30, rf_171_31, e2, e3, wp_iaload kd_173, show ¬ N ≤ i by omega, if_false, hof, show ¬ y.1.1 (23 * o i + 2) < 0 by omega, hcb, c1.2, Bool.false_eq_true]
      try simp only [not_true_eq_false, if_false]
      try (repeat (refine (and_iff_right (by omega)).trans ?_))
      try exact Iff.rfl
    · have ec1 : nuF o i y = if (clW (y.1.1 (23 * o i + 2)) y.1.2.2.1.toNat y.1).1 (23 * o i + 1) = 1 then
    (if 31 < (clW (y.1.1 (23 * o i + 2)) y.1.2.2.1.toNat y.1).2.2.2 then (clW (y.1.1 (23 * o i + 2)) y.1.2.2.1.toNat y.1, y.2)
     else ((ups (clW (y.1.1 (23 * o i + 2)) y.1.2.2.1.toNat y.1).1 (23 * o i + 17) (clW (y.1.1 (23 * o i + 2)) y.1.2.2.1.toNat y.1).2.2.2, ups (clW (y.1.1 (23 * o i + 2)) y.1.2.2.1.toNat y.1).2.1 (clW (y.1.1 (23 * o i + 2)) y.1.2.2.1.toNat y.1).2.2.1 (o i), (clW (y.1.1 (23 * o i + 2)) y.1.2.2.1.toNat y.1).2.2.1 + 1, (clW (y.1.1 (23 * o i + 2)) y.1.2.2.1.toNat y.1).2.2.2 + 1), adB y.2 (o i)))
  else (clW (y.1.1 (23 * o i + 2)) y.1.2.2.1.toNat y.1, adB y.2 (o i)) := if_neg c1
      have e58 : ∀ Q, wp none (d + 4) 183 (zpg 183 18) [.inr (some 171), .inl (bs y.2), .inl i, x3, x4] [] (nbm X y.1) Q ↔ wp none (d + 4) 183 (zpg 183 88) [.inr (some 171), .inl (bs y.2), .inl i, .inl (o i), .inl (y.1.1 (23 * o i + 2))] [] (nbm X (clW (y.1.1 (23 * o i + 2)) y.1.2.2.1.toNat y.1)) Q := by
        intro Q
        rw [← hcw.2.2 Q]
        conv => lhs; rw [pg_183_18]
        by_cases q1 : y.1.1 (23 * o i + 2) < 0
        · simp (disch := omega) only [cw_142, cw_149, wp_iload, wp_aload, wp_istore, wp_astore, wp_iinc, wp_iconst, wp_dup, wp_dup2, wp_pop, wp_iadd, wp_isub, wp_imul, wp_idiv, wp_irem, wp_ineg, wp_iand, wp_ior, wp_ixor, wp_ishl, wp_ishr, wp_getI, wp_putI, wp_getR, wp_goto, wp_goto_w, wq_if_eq, wq_if_ne, wq_if_lt, wq_if_ge, wq_if_gt, wq_if_le, wq_icmp_eq, wq_icmp_ne, wq_icmp_lt, wq_icmp_ge, wq_icmp_gt, wq_icmp_le, wp_max, wp_min, kI_inl, kR_some, kN_inl, kO_some, KT_none, KT_some, List.length_cons, List.length_nil, Nat.reduceAdd, Nat.reduceLT, Nat.reduceLeDiff, Nat.reduceMod, Nat.reduceDiv, true_and, and_true, Int.reduceLE, Int.reduceNeg, Int.reduceLT, Int.cast_ofNat_Int, Nat.zero_le, zI, Int.reduceAdd, Int.reduceSub, Int.reduceMul, not_true_eq_false, not_false_eq_true, false_implies, true_implies, i01_0, i01_1, ite_not, ↓reduceIte, zget_0, zget_1, zget_2, zget_3, zget_4, zget_5, zget_6, zget_7, zget_8, zget_9, zget_10, zset_0, zset_1, zset_2, zset_3, zset_4, zset_5, zset_6, zset_7, zset_8, zset_9, zset_10, kd_171, rf_171_0, rf_171_1, rf_171_3, rf_171_4, rf_171_5, rf_171_6, rf_171_7, rf_171_8, rf_171_10, rf_171_13, rf_171_14, rf_171_15, rf_171_16, rf_171_17, rf_171_20, rf_171_21, rf_171_27, rf_171_28, rf_171_29, rf_171_30, rf_171_31, e2, e3, wp_iaload kd_173, show ¬ N ≤ i by omega, if_false, hof, q1, if_true]
          try (repeat (refine (and_iff_right (by omega)).trans ?_))
          try exact Iff.rfl
        · have q2 : y.2 (y.1.1 (23 * o i + 2)) = true := by
            cases hq : y.2 (y.1.1 (23 * o i + 2))
            · exact absurd ⟨by omega, hq⟩ c1
            · rfl
          have hcb := fun Q => c_bit (d := d + 3) (im := nbm X y.1) (p := y.2) (e := y.1.1 (23 * o i + 2)) (Q := Q) (by omega)
          simp (disch := omega) only [cw_142, cw_149, wp_iload, wp_aload, wp_istore, wp_astore, wp_iinc, wp_iconst, wp_dup, wp_dup2, wp_pop, wp_iadd, wp_isub, wp_imul, wp_idiv, wp_irem, wp_ineg, wp_iand, wp_ior, wp_ixor, wp_ishl, wp_ishr, wp_getI, wp_putI, wp_getR, wp_goto, wp_goto_w, wq_if_eq, wq_if_ne, wq_if_lt, wq_if_ge, wq_if_gt, wq_if_le, wq_icmp_eq, wq_icmp_ne, wq_icmp_lt, wq_icmp_ge, wq_icmp_gt, wq_icmp_le, wp_max, wp_min, kI_inl, kR_some, kN_inl, kO_some, KT_none, KT_some, List.length_cons, List.length_nil, Nat.reduceAdd, Nat.reduceLT, Nat.reduceLeDiff, Nat.reduceMod, Nat.reduceDiv, true_and, and_true, Int.reduceLE, Int.reduceNeg, Int.reduceLT, Int.cast_ofNat_Int, Nat.zero_le, zI, Int.reduceAdd, Int.reduceSub, Int.reduceMul, not_true_eq_false, not_false_eq_true, false_implies, true_implies, i01_0, i01_1, ite_not, ↓reduceIte, zget_0, zget_1, zget_2, zget_3, zget_4, zget_5, zget_6, zget_7, zget_8, zget_9, zget_10, zset_0, zset_1, zset_2, zset_3, zset_4, zset_5, zset_6, zset_7, zset_8, zset_9, zset_10, kd_171, rf_171_0, rf_171_1, rf_171_3, rf_171_4, rf_171_5, rf_171_6, rf_171_7, rf_171_8, rf_171_10, rf_171_13, rf_171_14, rf_171_15, rf_171_16, rf_171_17, rf_171_20, rf_171_21, rf_171_27, rf_171_28, rf_171_29, rf_171_30, rf_171_31, e2, e3, wp_iaload kd_173, show ¬ N ≤ i by omega, if_false, hof, q1, hcb, q2, if_true]
          try simp only [show ¬ (1 : Int) = 0 by omega, not_false_eq_true, if_true]
          try (repeat (refine (and_iff_right (by omega)).trans ?_))
          try exact Iff.rfl
      have hI1 := hcw.1
      have hsp := hcw.1.2.1
      have hsx := hcw.1.2.2.1
      generalize clW (y.1.1 (23 * o i + 2)) y.1.2.2.1.toNat y.1 = s1 at *
      by_cases c2 : s1.1 (23 * o i + 1) = 1
      · by_cases c3 : 31 < s1.2.2.2
        · have ec : nuF o i y = (s1, y.2) := by rw [ec1, if_pos c2, if_pos c3]
          rw [ec] at hPn ⊢
          obtain ⟨i1, x3', x4', ih⟩ := l_nu (X := X) hg hN hN2 ho hth n (i + 1) (s1, y.2) (.inl (o i)) (.inl (y.1.1 (23 * o i + 2))) (by omega) (by omega) hI1 hPn
          refine ⟨i1, x3', x4', fun Q => ?_⟩
          rw [← ih Q, e58]
          conv => lhs; rw [pg_183_88]
          simp (disch := omega) only [cw_142, pg_183_157, wp_iload, wp_aload, wp_istore, wp_astore, wp_iinc, wp_iconst, wp_dup, wp_dup2, wp_pop, wp_iadd, wp_isub, wp_imul, wp_idiv, wp_irem, wp_ineg, wp_iand, wp_ior, wp_ixor, wp_ishl, wp_ishr, wp_getI, wp_putI, wp_getR, wp_goto, wp_goto_w, wq_if_eq, wq_if_ne, wq_if_lt, wq_if_ge, wq_if_gt, wq_if_le, wq_icmp_eq, wq_icmp_ne, wq_icmp_lt, wq_icmp_ge, wq_icmp_gt, wq_icmp_le, wp_max, wp_min, kI_inl, kR_some, kN_inl, kO_some, KT_none, KT_some, List.length_cons, List.length_nil, Nat.reduceAdd, Nat.reduceLT, Nat.reduceLeDiff, Nat.reduceMod, Nat.reduceDiv, true_and, and_true, Int.reduceLE, Int.reduceNeg, Int.reduceLT, Int.cast_ofNat_Int, Nat.zero_le, zI, Int.reduceAdd, Int.reduceSub, Int.reduceMul, not_true_eq_false, not_false_eq_true, false_implies, true_implies, i01_0, i01_1, ite_not, ↓reduceIte, zget_0, zget_1, zget_2, zget_3, zget_4, zget_5, zget_6, zget_7, zget_8, zget_9, zget_10, zset_0, zset_1, zset_2, zset_3, zset_4, zset_5, zset_6, zset_7, zset_8, zset_9, zset_10, kd_171, rf_171_0, rf_171_1, rf_171_3, rf_171_4, rf_171_5, rf_171_6, rf_171_7, rf_171_8, rf_171_10, rf_171_13, rf_171_14, rf_171_15, rf_171_16, rf_171_17, rf_171_20, rf_171_21, rf_171_27, rf_171_28, rf_171_29, rf_171_30, rf_171_31, hof, c2, not_true_eq_false, if_false, nbm_x, show ¬ s1.2.2.2 ≤ 31 by omega]
          try (repeat (refine (and_iff_right (by omega)).trans ?_))
          try exact Iff.rfl
        · have ec : nuF o i y = ((ups s1.1 (23 * o i + 17) s1.2.2.2, ups s1.2.1 s1.2.2.1 (o i), s1.2.2.1 + 1, s1.2.2.2 + 1), adB y.2 (o i)) := by rw [ec1, if_pos c2, if_neg c3]
          rw [ec] at hPn ⊢
          have hI2 : NuI A0 (ups s1.1 (23 * o i + 17) s1.2.2.2, ups s1.2.1 s1.2.2.1 (o i), s1.2.2.1 + 1, s1.2.2.2 + 1) := by
            refine ⟨fun j q0 q1 => ?_, by dsimp only; omega, by dsimp only; omega, fun e f q0 q1 q2 q3 q4 q5 => ?_⟩
            · dsimp only at q1 ⊢
              by_cases cc : j = s1.2.2.1
              · rw [cc, ups_at]
                exact hoi
              · rw [ups_ne _ _ cc]
                exact hI1.1 j q0 (by omega)
            · dsimp only
              rw [ups_ne _ _ (by omega)]
              exact hI1.2.2.2 e f q0 q1 q2 q3 q4 q5
          obtain ⟨i1, x3', x4', ih⟩ := l_nu (X := X) hg hN hN2 ho hth n (i + 1) _ (.inl (o i)) (.inl (y.1.1 (23 * o i + 2))) (by omega) (by omega) hI2 hPn
          refine ⟨i1, x3', x4', fun Q => ?_⟩
          have eb : zor (bs y.2) (zshl 1 (o i)) = bs (adB y.2 (o i)) := bs_add hoi
          rw [← ih Q, e58]
          conv => lhs; rw [pg_183_88]
          simp (disch := omega) only [cw_142, cw_143, pg_183_110, pg_183_151, wp_iload, wp_aload, wp_istore, wp_astore, wp_iinc, wp_iconst, wp_dup, wp_dup2, wp_pop, wp_iadd, wp_isub, wp_imul, wp_idiv, wp_irem, wp_ineg, wp_iand, wp_ior, wp_ixor, wp_ishl, wp_ishr, wp_getI, wp_putI, wp_getR, wp_goto, wp_goto_w, wq_if_eq, wq_if_ne, wq_if_lt, wq_if_ge, wq_if_gt, wq_if_le, wq_icmp_eq, wq_icmp_ne, wq_icmp_lt, wq_icmp_ge, wq_icmp_gt, wq_icmp_le, wp_max, wp_min, kI_inl, kR_some, kN_inl, kO_some, KT_none, KT_some, List.length_cons, List.length_nil, Nat.reduceAdd, Nat.reduceLT, Nat.reduceLeDiff, Nat.reduceMod, Nat.reduceDiv, true_and, and_true, Int.reduceLE, Int.reduceNeg, Int.reduceLT, Int.cast_ofNat_Int, Nat.zero_le, zI, Int.reduceAdd, Int.reduceSub, Int.reduceMul, not_true_eq_false, not_false_eq_true, false_implies, true_implies, i01_0, i01_1, ite_not, ↓reduceIte, zget_0, zget_1, zget_2, zget_3, zget_4, zget_5, zget_6, zget_7, zget_8, zget_9, zget_10, zset_0, zset_1, zset_2, zset_3, zset_4, zset_5, zset_6, zset_7, zset_8, zset_9, zset_10, kd_171, rf_171_0, rf_171_1, rf_171_3, rf_171_4, rf_171_5, rf_171_6, rf_171_7, rf_171_8, rf_171_10, rf_171_13, rf_171_14, rf_171_15, rf_171_16, rf_171_17, rf_171_20, rf_171_21, rf_171_27, rf_171_28, rf_171_29, rf_171_30, rf_171_31, hof, hpt, c2, not_true_eq_false, if_false, nbm_x, nbm_p, nbm_O, wp_iastore kd_180, zu_setc, nbm_sO, nbm_sp, nbm_sx, show s1.2.2.2 ≤ 31 by omega, if_true, eb]
          try (repeat (refine (and_iff_right (by omega)).trans ?_))
          try exact Iff.rfl
      · have ec : nuF o i y = (s1, adB y.2 (o i)) := by rw [ec1, if_neg c2]
        rw [ec] at hPn ⊢
        obtain ⟨i1, x3', x4', ih⟩ := l_nu (X := X) hg hN hN2 ho hth n (i + 1) (s1, adB y.2 (o i)) (.inl (o i)) (.inl (y.1.1 (23 * o i + 2))) (by omega) (by omega) hI1 hPn
        refine ⟨i1, x3', x4', fun Q => ?_⟩
        have eb : zor (bs y.2) (zshl 1 (o i)) = bs (adB y.2 (o i)) := bs_add hoi
        rw [← ih Q, e58]
        conv => lhs; rw [pg_183_88]
        simp (disch := omega) only [cw_142, pg_183_151, wp_iload, wp_aload, wp_istore, wp_astore, wp_iinc, wp_iconst, wp_dup, wp_dup2, wp_pop, wp_iadd, wp_isub, wp_imul, wp_idiv, wp_irem, wp_ineg, wp_iand, wp_ior, wp_ixor, wp_ishl, wp_ishr, wp_getI, wp_putI, wp_getR, wp_goto, wp_goto_w, wq_if_eq, wq_if_ne, wq_if_lt, wq_if_ge, wq_if_gt, wq_if_le, wq_icmp_eq, wq_icmp_ne, wq_icmp_lt, wq_icmp_ge, wq_icmp_gt, wq_icmp_le, wp_max, wp_min, kI_inl, kR_some, kN_inl, kO_some, KT_none, KT_some, List.length_cons, List.length_nil, Nat.reduceAdd, Nat.reduceLT, Nat.reduceLeDiff, Nat.reduceMod, Nat.reduceDiv, true_and, and_true, Int.reduceLE, Int.reduceNeg, Int.reduceLT, Int.cast_ofNat_Int, Nat.zero_le, zI, Int.reduceAdd, Int.reduceSub, Int.reduceMul, not_true_eq_false, not_false_eq_true, false_implies, true_implies, i01_0, i01_1, ite_not, ↓reduceIte, zget_0, zget_1, zget_2, zget_3, zget_4, zget_5, zget_6, zget_7, zget_8, zget_9, zget_10, zset_0, zset_1, zset_2, zset_3, zset_4, zset_5, zset_6, zset_7, zset_8, zset_9, zset_10, kd_171, rf_171_0, rf_171_1, rf_171_3, rf_171_4, rf_171_5, rf_171_6, rf_171_7, rf_171_8, rf_171_10, rf_171_13, rf_171_14, rf_171_15, rf_171_16, rf_171_17, rf_171_20, rf_171_21, rf_171_27, rf_171_28, rf_171_29, rf_171_30, rf_171_31, hof, c2, not_false_eq_true, if_true, eb]
        try (repeat (refine (and_iff_right (by omega)).trans ?_))
        try exact Iff.rfl
def nuZ (im : zM) : zNo := lp (nuF (waM im).1) (waM im).2.toNat 0 ((im 172, im 180, 0, 1), fun _ => false)
def nuE (im : zM) : zNu := clA (nuZ im).1.2.2.1.toNat (nuZ im).1
theorem NuI0 {A O : Int → Int} : NuI A (A, O, 0, 1) := ⟨fun j q0 q1 => by dsimp only at q1; omega, by dsimp only; omega, by dsimp only; omega, fun _ _ _ _ _ _ _ _ => rfl⟩
theorem c_number (hA : MU (im 172)) (hg : MG (im 172)) (hP : NuP (waM im).1 (waM im).2.toNat 0 ((im 172, im 180, 0, 1), fun _ => false)) : (∀ Q, CallP (d + 4) 183 [.inr (some 171)] im Q ↔ Q (some (.inl (bs (nuZ im).2))) (nbm (wkm im (waM im)) (nuE im))) ∧ NuI (im 172) (nuE im) := by
  have hl := fun Q => (c_layWalk (d := d) (im := im) (Q := Q) hA).1
  obtain ⟨-, hl2, hl3⟩ := c_layWalk (d := d) (im := im) (Q := fun _ _ => True) hA
  have hth : ∀ j : Int, 0 ≤ j → j < (waM im).2 → 0 ≤ (waM im).1 j ∧ (waM im).1 j < 20 := fun j q0 q1 => by
    have := hl3 j q0 q1
    exact ⟨this.1, by have := this.2.1; omega⟩
  have w172 : wkm im (waM im) 172 = im 172 := wkm_A
  have w180 : wkm im (waM im) 180 = im 180 := by
    unfold wkm
    rw [setc_ne _ _ (by omega), setc_ne _ _ (by omega)]
  obtain ⟨i1, x3', x4', h1⟩ := l_nu (d := d) (X := wkm im (waM im)) (A0 := im 172) hg wkm_n hl2 wkm_o hth (waM im).2.toNat 0 ((im 172, im 180, 0, 1), fun _ => false) (.inr none) (.inr none) (by omega) (by omega) NuI0 hP
  have h2 := l_clA (d := d) (X := wkm im (waM im)) (A0 := im 172) hg (v := bs (nuZ im).2) (x2 := .inl (waM im).2) (x3 := x3') (x4 := x4') (nuZ im).1.2.2.1.toNat (nuZ im).1 i1 (by have := i1.2.1; unfold nuZ; omega)
  refine ⟨fun Q => ?_, h2.1⟩
  have h1' := h1 Q
  have h2' := h2.2 Q
  have e0 : nbm (wkm im (waM im)) (im 172, im 180, 0, 1) = setc (wkm im (waM im)) 171 (ups (ups (wkm im (waM im) 171) 11 0) 12 1) := by
    unfold nbm
    dsimp only
    rw [← w172, setc_self, ← w180, setc_self]
  have ez : bs (fun _ => false) = 0 := bs_zero.symm
  simp only [ez, e0] at h1'
  simp (disch := omega) only [en_183, pg_183_0, cw_156, wp_iload, wp_aload, wp_istore, wp_astore, wp_iinc, wp_iconst, wp_dup, wp_dup2, wp_pop, wp_iadd, wp_isub, wp_imul, wp_idiv, wp_irem, wp_ineg, wp_iand, wp_ior, wp_ixor, wp_ishl, wp_ishr, wp_getI, wp_putI, wp_getR, wp_goto, wp_goto_w, wq_if_eq, wq_if_ne, wq_if_lt, wq_if_ge, wq_if_gt, wq_if_le, wq_icmp_eq, wq_icmp_ne, wq_icmp_lt, wq_icmp_ge, wq_icmp_gt, wq_icmp_le, wp_max, wp_min, kI_inl, kR_some, kN_inl, kO_some, KT_none, KT_some, List.length_cons, List.length_nil, Nat.reduceAdd, Nat.reduceLT, Nat.reduceLeDiff, Nat.reduceMod, Nat.reduceDiv, true_and, and_true, Int.reduceLE, Int.reduceNeg, Int.reduceLT, Int.cast_ofNat_Int, Nat.zero_le, zI, Int.reduceAdd, Int.reduceSub, Int.reduceMul, not_true_eq_false, not_false_eq_true, false_implies, true_implies, i01_0, i01_1, ite_not, ↓reduceIte, zget_0, zget_1, zget_2, zget_3, zget_4, zget_5, zget_6, zget_7, zget_8, zget_9, zget_10, zset_0, zset_1, zset_2, zset_3, zset_4, zset_5, zset_6, zset_7, zset_8, zset_9, zset_10, kd_171, rf_171_0, rf_171_1, rf_171_3, rf_171_4, rf_171_5, rf_171_6, rf_171_7, rf_171_8, rf_171_10, rf_171_13, rf_171_14, rf_171_15, rf_171_16, rf_171_17, rf_171_20, rf_171_21, rf_171_27, rf_171_28, rf_171_29, rf_171_30, rf_171_31, hl, zu_setc, setc_at, setc_setc]
  refine h1'.trans ?_
  exact h2'
def trF (A o : Int → Int) (on : Int → Bool) (k : Int) (i : Int) (y : Int × Int) : Int × Int := if on (o i) = true ∧ A (23 * o i + 1) = 0 ∧ y.2 < unM A (o i) k then (o i, unM A (o i) k) else y
def trG (A o : Int → Int) (on : Int → Bool) (i : Int) (s : Int) : Int := if on (o i) = true ∧ A (23 * o i + 1) = 1 ∧ ¬ (0 ≤ s ∧ A (23 * o i + 16) ≤ A (23 * s + 16)) then o i else s
theorem l_tr1 {X : zM} {A : Int → Int} (hX : X 172 = A) (hg : MG A) {o : Int → Int} {N : Int} (hN : X 171 2 = N) (ho : X 173 = o) (hth : ∀ j : Int, 0 ≤ j → j < N → 0 ≤ o j ∧ o j < 20) (hN2 : 0 ≤ N ∧ N ≤ 20) {on : Int → Bool} : ∀ (n : Nat) (i : Int) (y : Int × Int) (x6 : zV), 0 ≤ i → i + n = N → ∃ x6', ∀ Q, wp none (d + 2) 185 (zpg 185 8) [.inr (some 171), .inl (bs on), .inl k, .inl y.1, .inl y.2, .inl i, x6] [] X Q ↔ wp none (d + 2) 185 (zpg 185 78) [.inr (some 171), .inl (bs on), .inl k, .inl (lp (trF A o on k) n i y).1, .inl (lp (trF A o on k) n i y).2, .inl N, x6'] [] X Q
  | 0, i, y, x6, h0, h1 => by
    refine ⟨x6, fun Q => ?_⟩
    conv => lhs; rw [pg_185_8]
    simp (disch := omega) only [wp_iload, wp_aload, wp_istore, wp_astore, wp_iinc, wp_iconst, wp_dup, wp_dup2, wp_pop, wp_iadd, wp_isub, wp_imul, wp_idiv, wp_irem, wp_ineg, wp_iand, wp_ior, wp_ixor, wp_ishl, wp_ishr, wp_getI, wp_putI, wp_getR, wp_goto, wp_goto_w, wq_if_eq, wq_if_ne, wq_if_lt, wq_if_ge, wq_if_gt, wq_if_le, wq_icmp_eq, wq_icmp_ne, wq_icmp_lt, wq_icmp_ge, wq_icmp_gt, wq_icmp_le, wp_max, wp_min, kI_inl, kR_some, kN_inl, kO_some, KT_none, KT_some, List.length_cons, List.length_nil, Nat.reduceAdd, Nat.reduceLT, Nat.reduceLeDiff, Nat.reduceMod, Nat.reduceDiv, true_and, and_true, Int.reduceLE, Int.reduceNeg, Int.reduceLT, Int.cast_ofNat_Int, Nat.zero_le, zI, Int.reduceAdd, Int.reduceSub, Int.reduceMul, not_true_eq_false, not_false_eq_true, false_implies, true_implies, i01_0, i01_1, ite_not, ↓reduceIte, zget_0, zget_1, zget_2, zget_3, zget_4, zget_5, zget_6, zget_7, zget_8, zget_9, zget_10, zset_0, zset_1, zset_2, zset_3, zset_4, zset_5, zset_6, zset_7, zset_8, zset_9, zset_10, kd_171, rf_171_0, rf_171_1, rf_171_3, rf_171_4, rf_171_5, rf_171_6, rf_171_7, rf_171_8, rf_171_10, rf_171_13, rf_171_14, rf_171_15, rf_171_16, rf_171_17, rf_171_20, rf_171_21, rf_171_27, rf_171_28, rf_171_29, rf_171_30, rf_171_31, hN, show N ≤ i by omega, if_true, lp]
    rw [show i = N by omega]
  | n + 1, i, y, x6, h0, h1 => by
    have hoi := hth i h0 (by omega)
    have hun := fun Q => c_unM (d := d) (im := X) (dv := o i) (kd := k) (Q := Q) (by rw [hX]; exact hg) hoi
    have hof := fun f Q (q : 0 ≤ f ∧ f < 23) => c_of (d := d + 1) (im := X) (dv := o i) (f := f) (Q := Q) hoi q
    simp only [hX] at hun hof
    simp only [lp]
    by_cases c : on (o i) = true ∧ A (23 * o i + 1) = 0 ∧ y.2 < unM A (o i) k
    · have ec : trF A o on k i y = (o i, unM A (o i) k) := if_pos c
      obtain ⟨x6', ih⟩ := l_tr1 hX hg hN ho hth hN2 (on := on) n (i + 1) (o i, unM A (o i) k) (.inl (o i)) (by omega) (by omega)
      refine ⟨x6', fun Q => ?_⟩
      rw [ec, ← ih Q]
      conv => lhs; rw [pg_185_8]
      simp (disch := omega) only [cw_142, cw_149, cw_184, pg_185_60, wp_iload, wp_aload, wp_istore, wp_astore, wp_iinc, wp_iconst, wp_dup, wp_dup2, wp_pop, wp_iadd, wp_isub, wp_imul, wp_idiv, wp_irem, wp_ineg, wp_iand, wp_ior, wp_ixor, wp_ishl, wp_ishr, wp_getI, wp_putI, wp_getR, wp_goto, wp_goto_w, wq_if_eq, wq_if_ne, wq_if_lt, wq_if_ge, wq_if_gt, wq_if_le, wq_icmp_eq, wq_icmp_ne, wq_icmp_lt, wq_icmp_ge, wq_icmp_gt, wq_icmp_le, wp_max, wp_min, kI_inl, kR_some, kN_inl, kO_some, KT_none, KT_some, List.length_cons, List.length_nil, Nat.reduceAdd, Nat.reduceLT, Nat.reduceLeDiff, Nat.reduceMod, Nat.reduceDiv, true_and, and_true, Int.reduceLE, Int.reduceNeg, Int.reduceLT, Int.cast_ofNat_Int, Nat.zero_le, zI, Int.reduceAdd, Int.reduceSub, Int.reduceMul, not_true_eq_false, not_false_eq_true, false_implies, true_implies, i01_0, i01_1, ite_not, ↓reduceIte, zget_0, zget_1, zget_2, zget_3, zget_4, zget_5, zget_6, zget_7, zget_8, zget_9, zget_10, zset_0, zset_1, zset_2, zset_3, zset_4, zset_5, zset_6, zset_7, zset_8, zset_9, zset_10, kd_171, rf_171_0, rf_171_1, rf_171_3, rf_171_4, rf_171_5, rf_171_6, rf_171_7, rf_171_8, rf_171_10, rf_171_13, rf_171_14, rf_171_15, rf_171_16, rf_171_17, rf_171_20, rf_171_21, rf_171_27, rf_171_28, rf_171_29, rf_171_30, rf_171_31, hN, ho, wp_iaload kd_173, show ¬ N ≤ i by omega, if_false, c_bit, if_pos c.1, hof, c.2.1, hun, show ¬ unM A (o i) k ≤ y.2 by omega, c.2.2, if_true, not_true_eq_false]
      try simp only [show ¬ (1 : Int) = 0 by omega, if_false]
      try (repeat (refine (and_iff_right (by omega)).trans ?_))
      try exact Iff.rfl
    · have ec : trF A o on k i y = y := if_neg c
      obtain ⟨x6', ih⟩ := l_tr1 hX hg hN ho hth hN2 (on := on) n (i + 1) y (.inl (o i)) (by omega) (by omega)
      refine ⟨x6', fun Q => ?_⟩
      rw [ec, ← ih Q]
      have e72 : wp none (d + 2) 185 (zpg 185 72) [.inr (some 171), .inl (bs on), .inl k, .inl y.1, .inl y.2, .inl i, .inl (o i)] [] X Q ↔ wp none (d + 2) 185 (zpg 185 8) [.inr (some 171), .inl (bs on), .inl k, .inl y.1, .inl y.2, .inl (i + 1), .inl (o i)] [] X Q := by
        conv => lhs; rw [pg_185_72]
        simp (disch := omega) only [wp_iload, wp_aload, wp_istore, wp_astore, wp_iinc, wp_iconst, wp_dup, wp_dup2, wp_pop, wp_iadd, wp_isub, wp_imul, wp_idiv, wp_irem, wp_ineg, wp_iand, wp_ior, wp_ixor, wp_ishl, wp_ishr, wp_getI, wp_putI, wp_getR, wp_goto, wp_goto_w, wq_if_eq, wq_if_ne, wq_if_lt, wq_if_ge, wq_if_gt, wq_if_le, wq_icmp_eq, wq_icmp_ne, wq_icmp_lt, wq_icmp_ge, wq_icmp_gt, wq_icmp_le, wp_max, wp_min, kI_inl, kR_some, kN_inl, kO_some, KT_none, KT_some, List.length_cons, List.length_nil, Nat.reduceAdd, Nat.reduceLT, Nat.reduceLeDiff, Nat.reduceMod, Nat.reduceDiv, true_and, and_true, Int.reduceLE, Int.reduceNeg, Int.reduceLT, Int.cast_ofNat_Int, Nat.zero_le, zI, Int.reduceAdd, Int.reduceSub, Int.reduceMul, not_true_eq_false, not_false_eq_true, false_implies, true_implies, i01_0, i01_1, ite_not, ↓reduceIte, zget_0, zget_1, zget_2, zget_3, zget_4, zget_5, zget_6, zget_7, zget_8, zget_9, zget_10, zset_0, zset_1, zset_2, zset_3, zset_4, zset_5, zset_6, zset_7, zset_8, zset_9, zset_10]
        try (repeat (refine (and_iff_right (by omega)).trans ?_))
        try exact Iff.rfl
      rw [← e72]
      conv => lhs; rw [pg_185_8]
      by_cases q1 : on (o i) = true
      · by_cases q2 : A (23 * o i + 1) = 0
        · have q3 : ¬ y.2 < unM A (o i) k := fun q => c ⟨q1, q2, q⟩
          simp (disch := omega) only [cw_142, cw_149, cw_184, wp_iload, wp_aload, wp_istore, wp_astore, wp_iinc, wp_iconst, wp_dup, wp_dup2, wp_pop, wp_iadd, wp_isub, wp_imul, wp_idiv, wp_irem, wp_ineg, wp_iand, wp_ior, wp_ixor, wp_ishl, wp_ishr, wp_getI, wp_putI, wp_getR, wp_goto, wp_goto_w, wq_if_eq, wq_if_ne, wq_if_lt, wq_if_ge, wq_if_gt, wq_if_le, wq_icmp_eq, wq_icmp_ne, wq_icmp_lt, wq_icmp_ge, wq_icmp_gt, wq_icmp_le, wp_max, wp_min, kI_inl, kR_some, kN_inl, kO_some, KT_none, KT_some, List.length_cons, List.length_nil, Nat.reduceAdd, Nat.reduceLT, Nat.reduceLeDiff, Nat.reduceMod, Nat.reduceDiv, true_and, and_true, Int.reduceLE, Int.reduceNeg, Int.reduceLT, Int.cast_ofNat_Int, Nat.zero_le, zI, Int.reduceAdd, Int.reduceSub, Int.reduceMul, not_true_eq_false, not_false_eq_true, false_implies, true_implies, i01_0, i01_1, ite_not, ↓reduceIte, zget_0, zget_1, zget_2, zget_3, zget_4, zget_5, zget_6, zget_7, zget_8, zget_9, zget_10, zset_0, zset_1, zset_2, zset_3, zset_4, zset_5, zset_6, zset_7, zset_8, zset_9, zset_10, kd_171, rf_171_0, rf_171_1, rf_171_3, rf_171_4, rf_171_5, rf_171_6, rf_171_7, rf_171_8, rf_171_10, rf_171_13, rf_171_14, rf_171_15, rf_171_16, rf_171_17, rf_171_20, rf_171_21, rf_171_27, rf_171_28, rf_171_29, rf_171_30, rf_171_31, hN, ho, wp_iaload kd_173, show ¬ N ≤ i by omega, if_false, c_bit, if_pos q1, hof, q2, hun, q3, not_true_eq_false]
          try simp only [show ¬ (1 : Int) = 0 by omega, if_false]
          try (repeat (refine (and_iff_right (by omega)).trans ?_))
          try exact Iff.rfl
        · simp (disch := omega) only [cw_142, cw_149, cw_184, wp_iload, wp_aload, wp_istore, wp_astore, wp_iinc, wp_iconst, wp_dup, wp_dup2, wp_pop, wp_iadd, wp_isub, wp_imul, wp_idiv, wp_irem, wp_ineg, wp_iand, wp_ior, wp_ixor, wp_ishl, wp_ishr, wp_getI, wp_putI, wp_getR, wp_goto, wp_goto_w, wq_if_eq, wq_if_ne, wq_if_lt, wq_if_ge, wq_if_gt, wq_if_le, wq_icmp_eq, wq_icmp_ne, wq_icmp_lt, wq_icmp_ge, wq_icmp_gt, wq_icmp_le, wp_max, wp_min, kI_inl, kR_some, kN_inl, kO_some, KT_none, KT_some, List.length_cons, List.length_nil, Nat.reduceAdd, Nat.reduceLT, Nat.reduceLeDiff, Nat.reduceMod, Nat.reduceDiv, true_and, and_true, Int.reduceLE, Int.reduceNeg, Int.reduceLT, Int.cast_ofNat_Int, Nat.zero_le, zI, Int.reduceAdd, Int.reduceSub, Int.reduceMul, not_true_eq_false, not_false_eq_true, false_implies, true_implies, i01_0, i01_1, ite_not, ↓reduceIte, zget_0, zget_1, zget_2, zget_3, zget_4, zget_5, zget_6, zget_7, zget_8, zget_9, zget_10, zset_0, zset_1, zset_2, zset_3, zset_4, zset_5, zset_6, zset_7, zset_8, zset_9, zset_10, kd_171, rf_171_0, rf_171_1, rf_171_3, rf_171_4, rf_171_5, rf_171_6, rf_171_7, rf_171_8, rf_171_10, rf_171_13, rf_171_14, rf_171_15, rf_171_16, rf_171_17, rf_171_20, rf_171_21, rf_171_27, rf_171_28, rf_171_29, rf_171_30, rf_171_31, hN, ho, wp_iaload kd_173, show ¬ N ≤ i by omega, if_false, c_bit, if_pos q1, hof, q2, not_false_eq_true, if_true]
          try simp only [show ¬ (1 : Int) = 0 by omega, if_false]
          try (repeat (refine (and_iff_right (by omega)).trans ?_))
          try exact Iff.rfl
      · simp (disch := omega) only [cw_142, cw_149, cw_184, wp_iload, wp_aload, wp_istore, wp_astore, wp_iinc, wp_iconst, wp_dup, wp_dup2, wp_pop, wp_iadd, wp_isub, wp_imul, wp_idiv, wp_irem, wp_ineg, wp_iand, wp_ior, wp_ixor, wp_ishl, wp_ishr, wp_getI, wp_putI, wp_getR, wp_goto, wp_goto_w, wq_if_eq, wq_if_ne, wq_if_lt, wq_if_ge, wq_if_gt, wq_if_le, wq_icmp_eq, wq_icmp_ne, wq_icmp_lt, wq_icmp_ge, wq_icmp_gt, wq_icmp_le, wp_max, wp_min, kI_inl, kR_some, kN_inl, kO_some, KT_none, KT_some, List.length_cons, List.length_nil, Nat.reduceAdd, Nat.reduceLT, Nat.reduceLeDiff, Nat.reduceMod, Nat.reduceDiv, true_and, and_true, Int.reduceLE, Int.reduceNeg, Int.reduceLT, Int.cast_ofNat_Int, Nat.zero_le, zI, Int.reduceAdd, Int.reduceSub, Int.reduceMul, not_true_eq_false, not_false_eq_true, false_implies, true_implies, i01_0, i01_1, ite_not, ↓reduceIte, zget_0, zget_1, zget_2, zget_3, zget_4, zget_5, zget_6, zget_7, zget_8, zget_9, zget_10, zset_0, zset_1, zset_2, zset_3, zset_4, zset_5, zset_6, zset_7, zset_8, zset_9, zset_10, kd_171, rf_171_0, rf_171_1, rf_171_3, rf_171_4, rf_171_5, rf_171_6, rf_171_7, rf_171_8, rf_171_10, rf_171_13, rf_171_14, rf_171_15, rf_171_16, rf_171_17, rf_171_20, rf_171_21, rf_171_27, rf_171_28, rf_171_29, rf_171_30, rf_171_31, hN, ho, wp_iaload kd_173, show ¬ N ≤ i by omega, if_false, c_bit, if_neg q1, if_true]
        try (repeat (refine (and_iff_right (by omega)).trans ?_))
        try exact Iff.rfl
theorem l_tr2 {X : zM} {A : Int → Int} (hX : X 172 = A) {o : Int → Int} {N : Int} (hN : X 171 2 = N) (ho : X 173 = o) (hth : ∀ j : Int, 0 ≤ j → j < N → 0 ≤ o j ∧ o j < 20) (hN2 : 0 ≤ N ∧ N ≤ 20) {on : Int → Bool} {x2 x4 : zV} : ∀ (n : Nat) (i s : Int) (x6 : zV), 0 ≤ i → i + n = N → s < 20 → ∀ Q, wp none (d + 2) 185 (zpg 185 87) [.inr (some 171), .inl (bs on), x2, .inl s, x4, .inl i, x6] [] X Q ↔ Q (some (.inl (lp (trG A o on) n i s))) X
  | 0, i, s, x6, h0, h1, hs, Q => by
    rw [pg_185_87]
    simp (disch := omega) only [wp_ireturn rk_185, pg_185_159, wp_iload, wp_aload, wp_istore, wp_astore, wp_iinc, wp_iconst, wp_dup, wp_dup2, wp_pop, wp_iadd, wp_isub, wp_imul, wp_idiv, wp_irem, wp_ineg, wp_iand, wp_ior, wp_ixor, wp_ishl, wp_ishr, wp_getI, wp_putI, wp_getR, wp_goto, wp_goto_w, wq_if_eq, wq_if_ne, wq_if_lt, wq_if_ge, wq_if_gt, wq_if_le, wq_icmp_eq, wq_icmp_ne, wq_icmp_lt, wq_icmp_ge, wq_icmp_gt, wq_icmp_le, wp_max, wp_min, kI_inl, kR_some, kN_inl, kO_some, KT_none, KT_some, List.length_cons, List.length_nil, Nat.reduceAdd, Nat.reduceLT, Nat.reduceLeDiff, Nat.reduceMod, Nat.reduceDiv, true_and, and_true, Int.reduceLE, Int.reduceNeg, Int.reduceLT, Int.cast_ofNat_Int, Nat.zero_le, zI, Int.reduceAdd, Int.reduceSub, Int.reduceMul, not_true_eq_false, not_false_eq_true, false_implies, true_implies, i01_0, i01_1, ite_not, ↓reduceIte, zget_0, zget_1, zget_2, zget_3, zget_4, zget_5, zget_6, zget_7, zget_8, zget_9, zget_10, zset_0, zset_1, zset_2, zset_3, zset_4, zset_5, zset_6, zset_7, zset_8, zset_9, zset_10, kd_171, rf_171_0, rf_171_1, rf_171_3, rf_171_4, rf_171_5, rf_171_6, rf_171_7, rf_171_8, rf_171_10, rf_171_13, rf_171_14, rf_171_15, rf_171_16, rf_171_17, rf_171_20, rf_171_21, rf_171_27, rf_171_28, rf_171_29, rf_171_30, rf_171_31, hN, show N ≤ i by omega, if_true, lp]
  | n + 1, i, s, x6, h0, h1, hs, Q => by
    have hoi := hth i h0 (by omega)
    have hof := fun f Q (q : 0 ≤ f ∧ f < 23) => c_of (d := d + 1) (im := X) (dv := o i) (f := f) (Q := Q) hoi q
    have hos := fun (h : 0 ≤ s) Q => c_of (d := d + 1) (im := X) (dv := s) (f := 16) (Q := Q) ⟨h, hs⟩ (by omega)
    simp only [hX] at hof hos
    have ih := fun s x6 hs => l_tr2 hX hN ho hth hN2 (on := on) (x2 := x2) (x4 := x4) n (i + 1) s x6 (by omega) (by omega) hs Q
    have e153 : wp none (d + 2) 185 (zpg 185 153) [.inr (some 171), .inl (bs on), x2, .inl s, x4, .inl i, .inl (o i)] [] X Q ↔ Q (some (.inl (lp (trG A o on) n (i + 1) s))) X := by
      rw [← ih s (.inl (o i)) hs]
      conv => lhs; rw [pg_185_153]
      simp (disch := omega) only [wp_iload, wp_aload, wp_istore, wp_astore, wp_iinc, wp_iconst, wp_dup, wp_dup2, wp_pop, wp_iadd, wp_isub, wp_imul, wp_idiv, wp_irem, wp_ineg, wp_iand, wp_ior, wp_ixor, wp_ishl, wp_ishr, wp_getI, wp_putI, wp_getR, wp_goto, wp_goto_w, wq_if_eq, wq_if_ne, wq_if_lt, wq_if_ge, wq_if_gt, wq_if_le, wq_icmp_eq, wq_icmp_ne, wq_icmp_lt, wq_icmp_ge, wq_icmp_gt, wq_icmp_le, wp_max, wp_min, kI_inl, kR_some, kN_inl, kO_some, KT_none, KT_some, List.length_cons, List.length_nil, Nat.reduceAdd, Nat.reduceLT, Nat.reduceLeDiff, Nat.reduceMod, Nat.reduceDiv, true_and, and_true, Int.reduceLE, Int.reduceNeg, Int.reduceLT, Int.cast_ofNat_Int, Nat.zero_le, zI, Int.reduceAdd, Int.reduceSub, Int.reduceMul, not_true_eq_false, not_false_eq_true, false_implies, true_implies, i01_0, i01_1, ite_not, ↓reduceIte, zget_0, zget_1, zget_2, zget_3, zget_4, zget_5, zget_6, zget_7, zget_8, zget_9, zget_10, zset_0, zset_1, zset_2, zset_3, zset_4, zset_5, zset_6, zset_7, zset_8, zset_9, zset_10]
      try (repeat (refine (and_iff_right (by omega)).trans ?_))
      try exact Iff.rfl
    have e150 : wp none (d + 2) 185 (zpg 185 150) [.inr (some 171), .inl (bs on), x2, .inl s, x4, .inl i, .inl (o i)] [] X Q ↔ Q (some (.inl (lp (trG A o on) n (i + 1) (o i)))) X := by
      rw [← ih (o i) (.inl (o i)) hoi.2]
      conv => lhs; rw [pg_185_150]
      simp (disch := omega) only [wp_iload, wp_aload, wp_istore, wp_astore, wp_iinc, wp_iconst, wp_dup, wp_dup2, wp_pop, wp_iadd, wp_isub, wp_imul, wp_idiv, wp_irem, wp_ineg, wp_iand, wp_ior, wp_ixor, wp_ishl, wp_ishr, wp_getI, wp_putI, wp_getR, wp_goto, wp_goto_w, wq_if_eq, wq_if_ne, wq_if_lt, wq_if_ge, wq_if_gt, wq_if_le, wq_icmp_eq, wq_icmp_ne, wq_icmp_lt, wq_icmp_ge, wq_icmp_gt, wq_icmp_le, wp_max, wp_min, kI_inl, kR_some, kN_inl, kO_some, KT_none, KT_some, List.length_cons, List.length_nil, Nat.reduceAdd, Nat.reduceLT, Nat.reduceLeDiff, Nat.reduceMod, Nat.reduceDiv, true_and, and_true, Int.reduceLE, Int.reduceNeg, Int.reduceLT, Int.cast_ofNat_Int, Nat.zero_le, zI, Int.reduceAdd, Int.reduceSub, Int.reduceMul, not_true_eq_false, not_false_eq_true, false_implies, true_implies, i01_0, i01_1, ite_not, ↓reduceIte, zget_0, zget_1, zget_2, zget_3, zget_4, zget_5, zget_6, zget_7, zget_8, zget_9, zget_10, zset_0, zset_1, zset_2, zset_3, zset_4, zset_5, zset_6, zset_7, zset_8, zset_9, zset_10]
      try (repeat (refine (and_iff_right (by omega)).trans ?_))
      try exact Iff.rfl
    simp only [lp]
    rw [pg_185_87]
    by_cases q1 : on (o i) = true
    · by_cases q2 : A (23 * o i + 1) = 1
      · by_cases q3 : 0 ≤ s
        · by_cases q4 : A (23 * o i + 16) ≤ A (23 * s + 16)
          · have ec : trG A o on i s = s := if_neg (fun q => q.2.2 ⟨q3, q4⟩)
            rw [ec, ← e153]
            simp (disch := omega) only [cw_142, cw_149, wp_iload, wp_aload, wp_istore, wp_astore, wp_iinc, wp_iconst, wp_dup, wp_dup2, wp_pop, wp_iadd, wp_isub, wp_imul, wp_idiv, wp_irem, wp_ineg, wp_iand, wp_ior, wp_ixor, wp_ishl, wp_ishr, wp_getI, wp_putI, wp_getR, wp_goto, wp_goto_w, wq_if_eq, wq_if_ne, wq_if_lt, wq_if_ge, wq_if_gt, wq_if_le, wq_icmp_eq, wq_icmp_ne, wq_icmp_lt, wq_icmp_ge, wq_icmp_gt, wq_icmp_le, wp_max, wp_min, kI_inl, kR_some, kN_inl, kO_some, KT_none, KT_some, List.length_cons, List.length_nil, Nat.reduceAdd, Nat.reduceLT, Nat.reduceLeDiff, Nat.reduceMod, Nat.reduceDiv, true_and, and_true, Int.reduceLE, Int.reduceNeg, Int.reduceLT, Int.cast_ofNat_Int, Nat.zero_le, zI, Int.reduceAdd, Int.reduceSub, Int.reduceMul, not_true_eq_false, not_false_eq_true, false_implies, true_implies, i01_0, i01_1, ite_not, ↓reduceIte, zget_0, zget_1, zget_2, zget_3, zget_4, zget_5, zget_6, zget_7, zget_8, zget_9, zget_10, zset_0, zset_1, zset_2, zset_3, zset_4, zset_5, zset_6, zset_7, zset_8, zset_9, zset_10, kd_171, rf_171_0, rf_171_1, rf_171_3, rf_171_4, rf_171_5, rf_171_6, rf_171_7, rf_171_8, rf_171_10, rf_171_13, rf_171_14, rf_171_15, rf_171_16, rf_171_17, rf_171_20, rf_171_21, rf_171_27, rf_171_28, rf_171_29, rf_171_30, rf_171_31, hN, ho, wp_iaload kd_173, show ¬ N ≤ i by omega, if_false, c_bit, if_pos q1, hof, q2, not_true_eq_false, show ¬ s < 0 by omega, hos, show ¬ A (23 * s + 16) < A (23 * o i + 16) by omega]
            try simp only [show ¬ (1 : Int) = 0 by omega, if_false]
            try (repeat (refine (and_iff_right (by omega)).trans ?_))
            try exact Iff.rfl
          · have ec : trG A o on i s = o i := if_pos ⟨q1, q2, fun q => q4 q.2⟩
            rw [ec, ← e150]
            simp (disch := omega) only [cw_142, cw_149, wp_iload, wp_aload, wp_istore, wp_astore, wp_iinc, wp_iconst, wp_dup, wp_dup2, wp_pop, wp_iadd, wp_isub, wp_imul, wp_idiv, wp_irem, wp_ineg, wp_iand, wp_ior, wp_ixor, wp_ishl, wp_ishr, wp_getI, wp_putI, wp_getR, wp_goto, wp_goto_w, wq_if_eq, wq_if_ne, wq_if_lt, wq_if_ge, wq_if_gt, wq_if_le, wq_icmp_eq, wq_icmp_ne, wq_icmp_lt, wq_icmp_ge, wq_icmp_gt, wq_icmp_le, wp_max, wp_min, kI_inl, kR_some, kN_inl, kO_some, KT_none, KT_some, List.length_cons, List.length_nil, Nat.reduceAdd, Nat.reduceLT, Nat.reduceLeDiff, Nat.reduceMod, Nat.reduceDiv, true_and, and_true, Int.reduceLE, Int.reduceNeg, Int.reduceLT, Int.cast_ofNat_Int, Nat.zero_le, zI, Int.reduceAdd, Int.reduceSub, Int.reduceMul, not_true_eq_false, not_false_eq_true, false_implies, true_implies, i01_0, i01_1, ite_not, ↓reduceIte, zget_0, zget_1, zget_2, zget_3, zget_4, zget_5, zget_6, zget_7, zget_8, zget_9, zget_10, zset_0, zset_1, zset_2, zset_3, zset_4, zset_5, zset_6, zset_7, zset_8, zset_9, zset_10, kd_171, rf_171_0, rf_171_1, rf_171_3, rf_171_4, rf_171_5, rf_171_6, rf_171_7, rf_171_8, rf_171_10, rf_171_13, rf_171_14, rf_171_15, rf_171_16, rf_171_17, rf_171_20, rf_171_21, rf_171_27, rf_171_28, rf_171_29, rf_171_30, rf_171_31, hN, ho, wp_iaload kd_173, show ¬ N ≤ i by omega, if_false, c_bit, if_pos q1, hof, q2, not_true_eq_false, show ¬ s < 0 by omega, hos, show A (23 * s + 16) < A (23 * o i + 16) by omega, if_true]
            try simp only [show ¬ (1 : Int) = 0 by omega, if_false]
            try (repeat (refine (and_iff_right (by omega)).trans ?_))
            try exact Iff.rfl
        · have ec : trG A o on i s = o i := if_pos ⟨q1, q2, fun q => q3 q.1⟩
          rw [ec, ← e150]
          simp (disch := omega) only [cw_142, cw_149, wp_iload, wp_aload, wp_istore, wp_astore, wp_iinc, wp_iconst, wp_dup, wp_dup2, wp_pop, wp_iadd, wp_isub, wp_imul, wp_idiv, wp_irem, wp_ineg, wp_iand, wp_ior, wp_ixor, wp_ishl, wp_ishr, wp_getI, wp_putI, wp_getR, wp_goto, wp_goto_w, wq_if_eq, wq_if_ne, wq_if_lt, wq_if_ge, wq_if_gt, wq_if_le, wq_icmp_eq, wq_icmp_ne, wq_icmp_lt, wq_icmp_ge, wq_icmp_gt, wq_icmp_le, wp_max, wp_min, kI_inl, kR_some, kN_inl, kO_some, KT_none, KT_some, List.length_cons, List.length_nil, Nat.reduceAdd, Nat.reduceLT, Nat.reduceLeDiff, Nat.reduceMod, Nat.reduceDiv, true_and, and_true, Int.reduceLE, Int.reduceNeg, Int.reduceLT, Int.cast_ofNat_Int, Nat.zero_le, zI, Int.reduceAdd, Int.reduceSub, Int.reduceMul, not_true_eq_false, not_false_eq_true, false_implies, true_implies, i01_0, i01_1, ite_not, ↓reduceIte, zget_0, zget_1, zget_2, zget_3, zget_4, zget_5, zget_6, zget_7, zget_8, zget_9, zget_10, zset_0, zset_1, zset_2, zset_3, zset_4, zset_5, zset_6, zset_7, zset_8, zset_9, zset_10, kd_171, rf_171_0, rf_171_1, rf_171_3, rf_171_4, rf_171_5, rf_171_6, rf_171_7, rf_171_8, rf_171_10, rf_171_13, rf_171_14, rf_171_15, rf_171_16, rf_171_17, rf_171_20, rf_171_21, rf_171_27, rf_171_28, rf_171_29, rf_171_30, rf_171_31, hN, ho, wp_iaload kd_173, show ¬ N ≤ i by omega, if_false, c_bit, if_pos q1, hof, q2, not_true_eq_false, show s < 0 by omega, if_true]
          try simp only [show ¬ (1 : Int) = 0 by omega, if_false]
          try (repeat (refine (and_iff_right (by omega)).trans ?_))
          try exact Iff.rfl
      · have ec : trG A o on i s = s := if_neg (fun q => q2 q.2.1)
        rw [ec, ← e153]
        simp (disch := omega) only [cw_142, cw_149, wp_iload, wp_aload, wp_istore, wp_astore, wp_iinc, wp_iconst, wp_dup, wp_dup2, wp_pop, wp_iadd, wp_isub, wp_imul, wp_idiv, wp_irem, wp_ineg, wp_iand, wp_ior, wp_ixor, wp_ishl, wp_ishr, wp_getI, wp_putI, wp_getR, wp_goto, wp_goto_w, wq_if_eq, wq_if_ne, wq_if_lt, wq_if_ge, wq_if_gt, wq_if_le, wq_icmp_eq, wq_icmp_ne, wq_icmp_lt, wq_icmp_ge, wq_icmp_gt, wq_icmp_le, wp_max, wp_min, kI_inl, kR_some, kN_inl, kO_some, KT_none, KT_some, List.length_cons, List.length_nil, Nat.reduceAdd, Nat.reduceLT, Nat.reduceLeDiff, Nat.reduceMod, Nat.reduceDiv, true_and, and_true, Int.reduceLE, Int.reduceNeg, Int.reduceLT, Int.cast_ofNat_Int, Nat.zero_le, zI, Int.reduceAdd, Int.reduceSub, Int.reduceMul, not_true_eq_false, not_false_eq_true, false_implies, true_implies, i01_0, i01_1, ite_not, ↓reduceIte, zget_0, zget_1, zget_2, zget_3, zget_4, zget_5, zget_6, zget_7, zget_8, zget_9, zget_10, zset_0, zset_1, zset_2, zset_3, zset_4, zset_5, zset_6, zset_7, zset_8, zset_9, zset_10, kd_171, rf_171_0, rf_171_1, rf_171_3, rf_171_4, rf_171_5, rf_171_6, rf_171_7, rf_171_8, rf_171_10, rf_171_13, rf_171_14, rf_171_15, rf_171_16, rf_171_17, rf_171_20, rf_171_21, rf_171_27, rf_171_28, rf_171_29, rf_171_30, rf_171_31, hN, ho, wp_iaload kd_173, show ¬ N ≤ i by omega, if_false, c_bit, if_pos q1, hof, q2, not_false_eq_true, if_true]
        try simp only [show ¬ (1 : Int) = 0 by omega, if_false]
        try (repeat (refine (and_iff_right (by omega)).trans ?_))
        try exact Iff.rfl
    · have ec : trG A o on i s = s := if_neg (fun q => q1 q.1)
      rw [ec, ← e153]
      simp (disch := omega) only [cw_142, cw_149, wp_iload, wp_aload, wp_istore, wp_astore, wp_iinc, wp_iconst, wp_dup, wp_dup2, wp_pop, wp_iadd, wp_isub, wp_imul, wp_idiv, wp_irem, wp_ineg, wp_iand, wp_ior, wp_ixor, wp_ishl, wp_ishr, wp_getI, wp_putI, wp_getR, wp_goto, wp_goto_w, wq_if_eq, wq_if_ne, wq_if_lt, wq_if_ge, wq_if_gt, wq_if_le, wq_icmp_eq, wq_icmp_ne, wq_icmp_lt, wq_icmp_ge, wq_icmp_gt, wq_icmp_le, wp_max, wp_min, kI_inl, kR_some, kN_inl, kO_some, KT_none, KT_some, List.length_cons, List.length_nil, Nat.reduceAdd, Nat.reduceLT, Nat.reduceLeDiff, Nat.reduceMod, Nat.reduceDiv, true_and, and_true, Int.reduceLE, Int.reduceNeg, Int.reduceLT, Int.cast_ofNat_Int, Nat.zero_le, zI, Int.reduceAdd, Int.reduceSub, Int.reduceMul, not_true_eq_false, not_false_eq_true, false_implies, true_implies, i01_0, i01_1, ite_not, ↓reduceIte, zget_0, zget_1, zget_2, zget_3, zget_4, zget_5, zget_6, zget_7, zget_8, zget_9, zget_10, zset_0, zset_1, zset_2, zset_3, zset_4, zset_5, zset_6, zset_7, zset_8, zset_9, zset_10, kd_171, rf_171_0, rf_171_1, rf_171_3, rf_171_4, rf_171_5, rf_171_6, rf_171_7, rf_171_8, rf_171_10, rf_171_13, rf_171_14, rf_171_15, rf_171_16, rf_171_17, rf_171_20, rf_171_21, rf_171_27, rf_171_28, rf_171_29, rf_171_30, rf_171_31, hN, ho, wp_iaload kd_173, show ¬ N ≤ i by omega, if_false, c_bit, if_neg q1, if_true]
      try (repeat (refine (and_iff_right (by omega)).trans ?_))
      try exact Iff.rfl
def trM (A o : Int → Int) (N : Int) (on : Int → Bool) (k : Int) : Int := if 0 ≤ (lp (trF A o on k) N.toNat 0 (-1, 0)).1 then (lp (trF A o on k) N.toNat 0 (-1, 0)).1 else lp (trG A o on) N.toNat 0 (lp (trF A o on k) N.toNat 0 (-1, 0)).1
theorem c_toRefuse {X : zM} {A : Int → Int} (hX : X 172 = A) (hg : MG A) {o : Int → Int} {N : Int} (hN : X 171 2 = N) (ho : X 173 = o) (hth : ∀ j : Int, 0 ≤ j → j < N → 0 ≤ o j ∧ o j < 20) (hN2 : 0 ≤ N ∧ N ≤ 20) {on : Int → Bool} : CallP (d + 2) 185 [.inr (some 171), .inl (bs on), .inl k] X Q ↔ Q (some (.inl (trM A o N on k))) X := by
  obtain ⟨x6', h1⟩ := l_tr1 (d := d) (k := k) hX hg hN ho hth hN2 (on := on) N.toNat 0 (-1, 0) (.inr none) (by omega) (by omega)
  have h1' := h1 Q
  simp (disch := omega) only [en_185, pg_185_0, wp_iload, wp_aload, wp_istore, wp_astore, wp_iinc, wp_iconst, wp_dup, wp_dup2, wp_pop, wp_iadd, wp_isub, wp_imul, wp_idiv, wp_irem, wp_ineg, wp_iand, wp_ior, wp_ixor, wp_ishl, wp_ishr, wp_getI, wp_putI, wp_getR, wp_goto, wp_goto_w, wq_if_eq, wq_if_ne, wq_if_lt, wq_if_ge, wq_if_gt, wq_if_le, wq_icmp_eq, wq_icmp_ne, wq_icmp_lt, wq_icmp_ge, wq_icmp_gt, wq_icmp_le, wp_max, wp_min, kI_inl, kR_some, kN_inl, kO_some, KT_none, KT_some, List.length_cons, List.length_nil, Nat.reduceAdd, Nat.reduceLT, Nat.reduceLeDiff, Nat.reduceMod, Nat.reduceDiv, true_and, and_true, Int.reduceLE, Int.reduceNeg, Int.reduceLT, Int.cast_ofNat_Int, Nat.zero_le, zI, Int.reduceAdd, Int.reduceSub, Int.reduceMul, not_true_eq_false, not_false_eq_true, false_implies, true_implies, i01_0, i01_1, ite_not, ↓reduceIte, zget_0, zget_1, zget_2, zget_3, zget_4, zget_5, zget_6, zget_7, zget_8, zget_9, zget_10, zset_0, zset_1, zset_2, zset_3, zset_4, zset_5, zset_6, zset_7, zset_8, zset_9, zset_10]
  refine h1'.trans ?_
  rw [pg_185_78]
  by_cases c : 0 ≤ (lp (trF A o on k) N.toNat 0 (-1, 0)).1
  · rw [show trM A o N on k = (lp (trF A o on k) N.toNat 0 (-1, 0)).1 from if_pos c]
    simp (disch := omega) only [wp_ireturn rk_185, wp_iload, wp_aload, wp_istore, wp_astore, wp_iinc, wp_iconst, wp_dup, wp_dup2, wp_pop, wp_iadd, wp_isub, wp_imul, wp_idiv, wp_irem, wp_ineg, wp_iand, wp_ior, wp_ixor, wp_ishl, wp_ishr, wp_getI, wp_putI, wp_getR, wp_goto, wp_goto_w, wq_if_eq, wq_if_ne, wq_if_lt, wq_if_ge, wq_if_gt, wq_if_le, wq_icmp_eq, wq_icmp_ne, wq_icmp_lt, wq_icmp_ge, wq_icmp_gt, wq_icmp_le, wp_max, wp_min, kI_inl, kR_some, kN_inl, kO_some, KT_none, KT_some, List.length_cons, List.length_nil, Nat.reduceAdd, Nat.reduceLT, Nat.reduceLeDiff, Nat.reduceMod, Nat.reduceDiv, true_and, and_true, Int.reduceLE, Int.reduceNeg, Int.reduceLT, Int.cast_ofNat_Int, Nat.zero_le, zI, Int.reduceAdd, Int.reduceSub, Int.reduceMul, not_true_eq_false, not_false_eq_true, false_implies, true_implies, i01_0, i01_1, ite_not, ↓reduceIte, zget_0, zget_1, zget_2, zget_3, zget_4, zget_5, zget_6, zget_7, zget_8, zget_9, zget_10, zset_0, zset_1, zset_2, zset_3, zset_4, zset_5, zset_6, zset_7, zset_8, zset_9, zset_10, show ¬ (lp (trF A o on k) N.toNat 0 (-1, 0)).1 < 0 by omega, if_false]
  · have h2 := l_tr2 (d := d) hX hN ho hth hN2 (on := on) (x2 := .inl k) (x4 := .inl (lp (trF A o on k) N.toNat 0 (-1, 0)).2) N.toNat 0 (lp (trF A o on k) N.toNat 0 (-1, 0)).1 x6' (by omega) (by omega) (by omega) Q
    rw [show trM A o N on k = lp (trG A o on) N.toNat 0 (lp (trF A o on k) N.toNat 0 (-1, 0)).1 from if_neg c, ← h2]
    simp (disch := omega) only [pg_185_84, wp_iload, wp_aload, wp_istore, wp_astore, wp_iinc, wp_iconst, wp_dup, wp_dup2, wp_pop, wp_iadd, wp_isub, wp_imul, wp_idiv, wp_irem, wp_ineg, wp_iand, wp_ior, wp_ixor, wp_ishl, wp_ishr, wp_getI, wp_putI, wp_getR, wp_goto, wp_goto_w, wq_if_eq, wq_if_ne, wq_if_lt, wq_if_ge, wq_if_gt, wq_if_le, wq_icmp_eq, wq_icmp_ne, wq_icmp_lt, wq_icmp_ge, wq_icmp_gt, wq_icmp_le, wp_max, wp_min, kI_inl, kR_some, kN_inl, kO_some, KT_none, KT_some, List.length_cons, List.length_nil, Nat.reduceAdd, Nat.reduceLT, Nat.reduceLeDiff, Nat.reduceMod, Nat.reduceDiv, true_and, and_true, Int.reduceLE, Int.reduceNeg, Int.reduceLT, Int.cast_ofNat_Int, Nat.zero_le, zI, Int.reduceAdd, Int.reduceSub, Int.reduceMul, not_true_eq_false, not_false_eq_true, false_implies, true_implies, i01_0, i01_1, ite_not, ↓reduceIte, zget_0, zget_1, zget_2, zget_3, zget_4, zget_5, zget_6, zget_7, zget_8, zget_9, zget_10, zset_0, zset_1, zset_2, zset_3, zset_4, zset_5, zset_6, zset_7, zset_8, zset_9, zset_10, show (lp (trF A o on k) N.toNat 0 (-1, 0)).1 < 0 by omega, if_true]
def tmM (A N : Int → Int) : Int := if A 460 < N 20 then 0 else if A 461 < N 41 then 1 else -1
theorem c_tooMuch : CallP (d + 1) 186 [.inr (some 171)] im Q ↔ Q (some (.inl (tmM (im 172) (im 174)))) im := by
  have hb := fun k h Q => c_busAt (d := d) (im := im) (k := k) (bu := 20) (Q := Q) h (by omega)
  by_cases c : im 172 460 < im 174 20
  · rw [show tmM (im 172) (im 174) = 0 from if_pos c]
    simp (disch := omega) only [en_186, wp_ireturn rk_186, pg_186_0, pg_186_33, pg_186_39, cw_172, wp_iload, wp_aload, wp_istore, wp_astore, wp_iinc, wp_iconst, wp_dup, wp_dup2, wp_pop, wp_iadd, wp_isub, wp_imul, wp_idiv, wp_irem, wp_ineg, wp_iand, wp_ior, wp_ixor, wp_ishl, wp_ishr, wp_getI, wp_putI, wp_getR, wp_goto, wp_goto_w, wq_if_eq, wq_if_ne, wq_if_lt, wq_if_ge, wq_if_gt, wq_if_le, wq_icmp_eq, wq_icmp_ne, wq_icmp_lt, wq_icmp_ge, wq_icmp_gt, wq_icmp_le, wp_max, wp_min, kI_inl, kR_some, kN_inl, kO_some, KT_none, KT_some, List.length_cons, List.length_nil, Nat.reduceAdd, Nat.reduceLT, Nat.reduceLeDiff, Nat.reduceMod, Nat.reduceDiv, true_and, and_true, Int.reduceLE, Int.reduceNeg, Int.reduceLT, Int.cast_ofNat_Int, Nat.zero_le, zI, Int.reduceAdd, Int.reduceSub, Int.reduceMul, not_true_eq_false, not_false_eq_true, false_implies, true_implies, i01_0, i01_1, ite_not, ↓reduceIte, zget_0, zget_1, zget_2, zget_3, zget_4, zget_5, zget_6, zget_7, zget_8, zget_9, zget_10, zset_0, zset_1, zset_2, zset_3, zset_4, zset_5, zset_6, zset_7, zset_8, zset_9, zset_10, kd_171, rf_171_0, rf_171_1, rf_171_3, rf_171_4, rf_171_5, rf_171_6, rf_171_7, rf_171_8, rf_171_10, rf_171_13, rf_171_14, rf_171_15, rf_171_16, rf_171_17, rf_171_20, rf_171_21, rf_171_27, rf_171_28, rf_171_29, rf_171_30, rf_171_31, pg_186_2, hb, wp_iaload kd_172, wp_iaload kd_174, Int.reduceMul, Int.reduceAdd, show ¬ im 174 20 ≤ im 172 460 by omega, if_false]
    try (repeat (refine (and_iff_right (by omega)).trans ?_))
    try exact Iff.rfl
  · by_cases c2 : im 172 461 < im 174 41
    · rw [show tmM (im 172) (im 174) = 1 by unfold tmM; rw [if_neg c, if_pos c2]]
      simp (disch := omega) only [en_186, wp_ireturn rk_186, pg_186_0, pg_186_33, pg_186_39, cw_172, wp_iload, wp_aload, wp_istore, wp_astore, wp_iinc, wp_iconst, wp_dup, wp_dup2, wp_pop, wp_iadd, wp_isub, wp_imul, wp_idiv, wp_irem, wp_ineg, wp_iand, wp_ior, wp_ixor, wp_ishl, wp_ishr, wp_getI, wp_putI, wp_getR, wp_goto, wp_goto_w, wq_if_eq, wq_if_ne, wq_if_lt, wq_if_ge, wq_if_gt, wq_if_le, wq_icmp_eq, wq_icmp_ne, wq_icmp_lt, wq_icmp_ge, wq_icmp_gt, wq_icmp_le, wp_max, wp_min, kI_inl, kR_some, kN_inl, kO_some, KT_none, KT_some, List.length_cons, List.length_nil, Nat.reduceAdd, Nat.reduceLT, Nat.reduceLeDiff, Nat.reduceMod, Nat.reduceDiv, true_and, and_true, Int.reduceLE, Int.reduceNeg, Int.reduceLT, Int.cast_ofNat_Int, Nat.zero_le, zI, Int.reduceAdd, Int.reduceSub, Int.reduceMul, not_true_eq_false, not_false_eq_true, false_implies, true_implies, i01_0, i01_1, ite_not, ↓reduceIte, zget_0, zget_1, zget_2, zget_3, zget_4, zget_5, zget_6, zget_7, zget_8, zget_9, zget_10, zset_0, zset_1, zset_2, zset_3, zset_4, zset_5, zset_6, zset_7, zset_8, zset_9, zset_10, kd_171, rf_171_0, rf_171_1, rf_171_3, rf_171_4, rf_171_5, rf_171_6, rf_171_7, rf_171_8, rf_171_10, rf_171_13, rf_171_14, rf_171_15, rf_171_16, rf_171_17, rf_171_20, rf_171_21, rf_171_27, rf_171_28, rf_171_29, rf_171_30, rf_171_31, pg_186_2, hb, wp_iaload kd_172, wp_iaload kd_174, Int.reduceMul, Int.reduceAdd, show im 174 20 ≤ im 172 460 by omega, if_true, show ¬ im 174 41 ≤ im 172 461 by omega, if_false]
      try (repeat (refine (and_iff_right (by omega)).trans ?_))
      try exact Iff.rfl
    · rw [show tmM (im 172) (im 174) = -1 by unfold tmM; rw [if_neg c, if_neg c2]]
      simp (disch := omega) only [en_186, wp_ireturn rk_186, pg_186_0, pg_186_33, pg_186_39, cw_172, wp_iload, wp_aload, wp_istore, wp_astore, wp_iinc, wp_iconst, wp_dup, wp_dup2, wp_pop, wp_iadd, wp_isub, wp_imul, wp_idiv, wp_irem, wp_ineg, wp_iand, wp_ior, wp_ixor, wp_ishl, wp_ishr, wp_getI, wp_putI, wp_getR, wp_goto, wp_goto_w, wq_if_eq, wq_if_ne, wq_if_lt, wq_if_ge, wq_if_gt, wq_if_le, wq_icmp_eq, wq_icmp_ne, wq_icmp_lt, wq_icmp_ge, wq_icmp_gt, wq_icmp_le, wp_max, wp_min, kI_inl, kR_some, kN_inl, kO_some, KT_none, KT_some, List.length_cons, List.length_nil, Nat.reduceAdd, Nat.reduceLT, Nat.reduceLeDiff, Nat.reduceMod, Nat.reduceDiv, true_and, and_true, Int.reduceLE, Int.reduceNeg, Int.reduceLT, Int.cast_ofNat_Int, Nat.zero_le, zI, Int.reduceAdd, Int.reduceSub, Int.reduceMul, not_true_eq_false, not_false_eq_true, false_implies, true_implies, i01_0, i01_1, ite_not, ↓reduceIte, zget_0, zget_1, zget_2, zget_3, zget_4, zget_5, zget_6, zget_7, zget_8, zget_9, zget_10, zset_0, zset_1, zset_2, zset_3, zset_4, zset_5, zset_6, zset_7, zset_8, zset_9, zset_10, kd_171, rf_171_0, rf_171_1, rf_171_3, rf_171_4, rf_171_5, rf_171_6, rf_171_7, rf_171_8, rf_171_10, rf_171_13, rf_171_14, rf_171_15, rf_171_16, rf_171_17, rf_171_20, rf_171_21, rf_171_27, rf_171_28, rf_171_29, rf_171_30, rf_171_31, pg_186_2, hb, wp_iaload kd_172, wp_iaload kd_174, Int.reduceMul, Int.reduceAdd, show im 174 20 ≤ im 172 460 by omega, if_true, show im 174 41 ≤ im 172 461 by omega]
      try (repeat (refine (and_iff_right (by omega)).trans ?_))
      try exact Iff.rfl
end MP2
