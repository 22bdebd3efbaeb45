/-! THE CLASS'S HISTORY -/
section HI
variable {d s t u o : Nat} {im : zM} {Q : Option zV → zM → Prop} {a b v dv kd sl i j k f : Int}
def nowT (p : Int) : Nat := 3 + 5 * p.toNat
theorem nowT_z (h : 0 ≤ a ∧ a < 21) : zT (nowT a) := (zring a.toNat (by omega)).2
theorem nowT_r (h : 0 ≤ a ∧ a < 21) : R0 2 a = some (nowT a) := by
  have e : ((a.toNat : Nat) : Int) = a := by omega
  have := (zring a.toNat (by omega)).1
  rw [e] at this
  exact this
theorem c_now (h : 0 ≤ im 1 1 ∧ im 1 1 < 21) : CallP d 1 [.inr (some 1)] im Q ↔ Q (some (.inr (some (nowT (im 1 1))))) im := by
  simp (disch := omega) only [en_1, wp_areturn rk_1, pg_1_0, pg_1_28, pg_1_34, wp_iload, wp_aload, wp_istore, wp_astore, wp_iinc, wp_iconst, wp_dup, wp_dup2, wp_pop, wp_iadd, wp_isub, wp_imul, wp_idiv, wp_irem, wp_ineg, wp_iand, wp_ior, wp_ixor, wp_ishl, wp_ishr, wp_getI, wp_putI, wp_getR, wp_goto, wp_goto_w, wq_if_eq, wq_if_ne, wq_if_lt, wq_if_ge, wq_if_gt, wq_if_le, wq_icmp_eq, wq_icmp_ne, wq_icmp_lt, wq_icmp_ge, wq_icmp_gt, wq_icmp_le, wp_max, wp_min, kI_inl, kR_some, kN_inl, kO_some, KT_none, KT_some, List.length_cons, List.length_nil, Nat.reduceAdd, Nat.reduceLT, Nat.reduceLeDiff, Nat.reduceMod, Nat.reduceDiv, true_and, and_true, Int.reduceLE, Int.reduceNeg, Int.reduceLT, Int.cast_ofNat_Int, Nat.zero_le, zI, Int.reduceAdd, Int.reduceSub, Int.reduceMul, not_true_eq_false, not_false_eq_true, false_implies, true_implies, i01_0, i01_1, ite_not, ↓reduceIte, zget_0, zget_1, zget_2, zget_3, zget_4, zget_5, zget_6, zget_7, zget_8, zget_9, zget_10, zset_0, zset_1, zset_2, zset_3, zset_4, zset_5, zset_6, zset_7, zset_8, zset_9, zset_10, kd_1, rf_1_0, wp_aaload kd_2, nowT_r h, show ¬ im 1 1 < 0 by omega, show ¬ 21 ≤ im 1 1 by omega, if_false]
  exact and_iff_right h
theorem ring_arith {p : Int} (h : 0 ≤ p) : p.tdiv 21 = p / 21 ∧ p.tmod 21 = p % 21 := ⟨Int.tdiv_eq_ediv_of_nonneg h, Int.tmod_eq_emod_of_nonneg h⟩
theorem c_stepBack (h : 0 ≤ im 1 1 ∧ im 1 1 < 21) (h2 : 0 ≤ im 1 2 ∧ im 1 2 ≤ 20) (h3 : 0 ≤ im 1 3 ∧ im 1 3 ≤ 20) : CallP d 3 [.inr (some 1)] im Q ↔ if im 1 2 = 0 then Q (some (.inl 0)) im else Q (some (.inl 1)) (setc im 1 (ups (ups (ups (im 1) 1 ((im 1 1 + 21 - 1) % 21)) 2 (im 1 2 - 1)) 3 (im 1 3 + 1))) := by
  have e := ring_arith (p := im 1 1 + 21 - 1) (by omega)
  simp (disch := omega) only [en_3, wp_zreturn rk_3, pg_3_0, pg_3_9, wp_iload, wp_aload, wp_istore, wp_astore, wp_iinc, wp_iconst, wp_dup, wp_dup2, wp_pop, wp_iadd, wp_isub, wp_imul, wp_idiv, wp_irem, wp_ineg, wp_iand, wp_ior, wp_ixor, wp_ishl, wp_ishr, wp_getI, wp_putI, wp_getR, wp_goto, wp_goto_w, wq_if_eq, wq_if_ne, wq_if_lt, wq_if_ge, wq_if_gt, wq_if_le, wq_icmp_eq, wq_icmp_ne, wq_icmp_lt, wq_icmp_ge, wq_icmp_gt, wq_icmp_le, wp_max, wp_min, kI_inl, kR_some, kN_inl, kO_some, KT_none, KT_some, List.length_cons, List.length_nil, Nat.reduceAdd, Nat.reduceLT, Nat.reduceLeDiff, Nat.reduceMod, Nat.reduceDiv, true_and, and_true, Int.reduceLE, Int.reduceNeg, Int.reduceLT, Int.cast_ofNat_Int, Nat.zero_le, zI, Int.reduceAdd, Int.reduceSub, Int.reduceMul, not_true_eq_false, not_false_eq_true, false_implies, true_implies, i01_0, i01_1, ite_not, ↓reduceIte, zget_0, zget_1, zget_2, zget_3, zget_4, zget_5, zget_6, zget_7, zget_8, zget_9, zget_10, zset_0, zset_1, zset_2, zset_3, zset_4, zset_5, zset_6, zset_7, zset_8, zset_9, zset_10, kd_1, e.1, e.2, zu_setc, setc_at, setc_setc, ups_ne, true_or, or_true]
  split
  · rfl
  · repeat (refine (and_iff_right (by omega)).trans ?_)
    exact Iff.rfl
theorem c_stepForth (h : 0 ≤ im 1 1 ∧ im 1 1 < 21) (h2 : 0 ≤ im 1 2 ∧ im 1 2 ≤ 20) (h3 : 0 ≤ im 1 3 ∧ im 1 3 ≤ 20) : CallP d 4 [.inr (some 1)] im Q ↔ if im 1 3 = 0 then Q (some (.inl 0)) im else Q (some (.inl 1)) (setc im 1 (ups (ups (ups (im 1) 1 ((im 1 1 + 1) % 21)) 2 (im 1 2 + 1)) 3 (im 1 3 - 1))) := by
  have e := ring_arith (p := im 1 1 + 1) (by omega)
  simp (disch := omega) only [en_4, wp_zreturn rk_4, pg_4_0, pg_4_9, wp_iload, wp_aload, wp_istore, wp_astore, wp_iinc, wp_iconst, wp_dup, wp_dup2, wp_pop, wp_iadd, wp_isub, wp_imul, wp_idiv, wp_irem, wp_ineg, wp_iand, wp_ior, wp_ixor, wp_ishl, wp_ishr, wp_getI, wp_putI, wp_getR, wp_goto, wp_goto_w, wq_if_eq, wq_if_ne, wq_if_lt, wq_if_ge, wq_if_gt, wq_if_le, wq_icmp_eq, wq_icmp_ne, wq_icmp_lt, wq_icmp_ge, wq_icmp_gt, wq_icmp_le, wp_max, wp_min, kI_inl, kR_some, kN_inl, kO_some, KT_none, KT_some, List.length_cons, List.length_nil, Nat.reduceAdd, Nat.reduceLT, Nat.reduceLeDiff, Nat.reduceMod, Nat.reduceDiv, true_and, and_true, Int.reduceLE, Int.reduceNeg, Int.reduceLT, Int.cast_ofNat_Int, Nat.zero_le, zI, Int.reduceAdd, Int.reduceSub, Int.reduceMul, not_true_eq_false, not_false_eq_true, false_implies, true_implies, i01_0, i01_1, ite_not, ↓reduceIte, zget_0, zget_1, zget_2, zget_3, zget_4, zget_5, zget_6, zget_7, zget_8, zget_9, zget_10, zset_0, zset_1, zset_2, zset_3, zset_4, zset_5, zset_6, zset_7, zset_8, zset_9, zset_10, kd_1, e.1, e.2, zu_setc, setc_at, setc_setc, ups_ne, true_or, or_true]
  split
  · rfl
  · repeat (refine (and_iff_right (by omega)).trans ?_)
    exact Iff.rfl
theorem zT_ge (h : zT t) : 3 ≤ t := by
  have h0 : zTl.all (fun t => decide (3 ≤ t)) = true := by decide +kernel
  exact of_decide_eq_true (List.all_eq_true.mp h0 t h)
theorem cpt_1 {v u : Nat} (hv : 3 ≤ v) (hu : 3 ≤ u) (r : Int → Int) : cpt (setc im 1 r) v u = setc (cpt im v u) 1 r := by
  funext p
  by_cases h : p = 1
  · rw [h]
    unfold cpt
    simp (disch := omega) only [setc_at, setc_ne]
  · rw [setc_ne _ _ h]
    unfold cpt
    simp (disch := omega) only [setc_ne]
    simp only [setc, h, if_false]
theorem c_keep (h : 0 ≤ im 1 1 ∧ im 1 1 < 21) (h2 : 0 ≤ im 1 2 ∧ im 1 2 ≤ 20) (hu : zT u) (hne : u ≠ nowT ((im 1 1 + 1) % 21)) : CallP (d + 1) 2 [.inr (some 1), .inr (some u)] im Q ↔ Q none (setc (cpt im (nowT ((im 1 1 + 1) % 21)) u) 1 (ups (ups (ups (im 1) 1 ((im 1 1 + 1) % 21)) 2 (min (im 1 2 + 1) 20)) 3 0)) := by
  have e := ring_arith (p := im 1 1 + 1) (by omega)
  have hr : 0 ≤ (im 1 1 + 1) % 21 ∧ (im 1 1 + 1) % 21 < 21 := by omega
  have hn := nowT_z hr
  have k0 := (zT_k hn).1
  have hnow := fun Q => c_now (d := d) (im := setc im 1 (ups (im 1) 1 ((im 1 1 + 1) % 21))) (Q := Q) (by rw [setc_at, ups_at]; exact hr)
  have hc := fun (im : zM) (Q) => c_copy (d := d) (im := im) (Q := Q) hn hu (Ne.symm hne)
  simp only [setc_at, ups_at] at hnow
  simp (disch := omega) only [en_2, wp_return rk_2, pg_2_0, cw_1, cw_48, wp_iload, wp_aload, wp_istore, wp_astore, wp_iinc, wp_iconst, wp_dup, wp_dup2, wp_pop, wp_iadd, wp_isub, wp_imul, wp_idiv, wp_irem, wp_ineg, wp_iand, wp_ior, wp_ixor, wp_ishl, wp_ishr, wp_getI, wp_putI, wp_getR, wp_goto, wp_goto_w, wq_if_eq, wq_if_ne, wq_if_lt, wq_if_ge, wq_if_gt, wq_if_le, wq_icmp_eq, wq_icmp_ne, wq_icmp_lt, wq_icmp_ge, wq_icmp_gt, wq_icmp_le, wp_max, wp_min, kI_inl, kR_some, kN_inl, kO_some, KT_none, KT_some, List.length_cons, List.length_nil, Nat.reduceAdd, Nat.reduceLT, Nat.reduceLeDiff, Nat.reduceMod, Nat.reduceDiv, true_and, and_true, Int.reduceLE, Int.reduceNeg, Int.reduceLT, Int.cast_ofNat_Int, Nat.zero_le, zI, Int.reduceAdd, Int.reduceSub, Int.reduceMul, not_true_eq_false, not_false_eq_true, false_implies, true_implies, i01_0, i01_1, ite_not, ↓reduceIte, zget_0, zget_1, zget_2, zget_3, zget_4, zget_5, zget_6, zget_7, zget_8, zget_9, zget_10, zset_0, zset_1, zset_2, zset_3, zset_4, zset_5, zset_6, zset_7, zset_8, zset_9, zset_10, kd_1, e.1, e.2, k0, zu_setc, hnow, hc]
  have h3 := zT_ge hn
  have h4 := zT_ge hu
  rw [cpt_1 h3 h4]
  simp (disch := omega) only [setc_at, setc_setc, ups_ne, ups_at]
  repeat (refine (and_iff_right (by omega)).trans ?_)
  exact Iff.rfl
theorem c_restart (h : 0 ≤ im 1 1 ∧ im 1 1 < 21) (hu : zT u) (hne : u ≠ nowT (im 1 1)) : CallP (d + 1) 5 [.inr (some 1), .inr (some u)] im Q ↔ Q none (setc (cpt im (nowT (im 1 1)) u) 1 (ups (ups (im 1) 2 0) 3 0)) := by
  have hn := nowT_z h
  have k0 := (zT_k hn).1
  have hnow := fun Q => c_now (d := d) (im := im) (Q := Q) h
  have hc := fun (im : zM) (Q) => c_copy (d := d) (im := im) (Q := Q) hn hu (Ne.symm hne)
  have h3 := zT_ge hn
  have e1 : cpt im (nowT (im 1 1)) u 1 = im 1 := by
    unfold cpt
    simp (disch := omega) only [setc_ne]
  simp (disch := omega) only [en_5, wp_return rk_5, pg_5_0, cw_1, cw_48, wp_iload, wp_aload, wp_istore, wp_astore, wp_iinc, wp_iconst, wp_dup, wp_dup2, wp_pop, wp_iadd, wp_isub, wp_imul, wp_idiv, wp_irem, wp_ineg, wp_iand, wp_ior, wp_ixor, wp_ishl, wp_ishr, wp_getI, wp_putI, wp_getR, wp_goto, wp_goto_w, wq_if_eq, wq_if_ne, wq_if_lt, wq_if_ge, wq_if_gt, wq_if_le, wq_icmp_eq, wq_icmp_ne, wq_icmp_lt, wq_icmp_ge, wq_icmp_gt, wq_icmp_le, wp_max, wp_min, kI_inl, kR_some, kN_inl, kO_some, KT_none, KT_some, List.length_cons, List.length_nil, Nat.reduceAdd, Nat.reduceLT, Nat.reduceLeDiff, Nat.reduceMod, Nat.reduceDiv, true_and, and_true, Int.reduceLE, Int.reduceNeg, Int.reduceLT, Int.cast_ofNat_Int, Nat.zero_le, zI, Int.reduceAdd, Int.reduceSub, Int.reduceMul, not_true_eq_false, not_false_eq_true, false_implies, true_implies, i01_0, i01_1, ite_not, ↓reduceIte, zget_0, zget_1, zget_2, zget_3, zget_4, zget_5, zget_6, zget_7, zget_8, zget_9, zget_10, zset_0, zset_1, zset_2, zset_3, zset_4, zset_5, zset_6, zset_7, zset_8, zset_9, zset_10, kd_1, k0, zu_setc, hnow, hc, setc_at, setc_setc, e1]
end HI
