/-! THE CLASS'S FACE: gaps, room, spare numbers, places -/
section FE
variable {d s t u o : Nat} {im : zM} {Q : Option zV → zM → Prop} {a b v dv kd sl i j k f : Int}
theorem zSh_125 : zSh 125 := by decide
theorem ks_125 : K0[125]? = some (7, 0) := (zSh_k zSh_125).1
def hsZ (im : zM) (t : Nat) (a k : Int) : zSS := gatS (im (t + 1)) (im (t + 3)) (im t 4) a k (gsh im 125)
def hsM (im : zM) (t : Nat) (a k : Int) : zM := sth im 125 (hsZ im t a k)
theorem hsM_g {k : Int} : gsh (hsM im t a k) 125 = hsZ im t a k := gsh_sth _ _ _
theorem hsM_ne {k : Int} {p : Nat} (h : p < 125 ∨ 130 < p) : hsM im t a k p = im p := sth_ne _ _ (by omega)
abbrev hsB (c : Int → Int) (a k : Int) : Prop := (a = -1 ∨ (gt c a 0 = 2 ∧ gt c a 3 = 1)) ∧ 0 ≤ k ∧ k < 2
theorem c_hasShelf (h : HH im) (e : nowT (im 1 1) = t) (hn : im t 4 ≤ 20) (hb : TB (im (t + 1))) : CallP (d + 4) 121 [.inr (some 0), .inl a, .inl k] im Q ↔ if hsB (im (t + 1)) a k then Q (some (.inl 1)) (hsM im t a k) else Q (some (.inl 0)) im := by
  have ht : zT t := e ▸ nowT_z h.1
  have kt := (zT_k ht).1
  have hnw := fun d Q => c_now (d := d) (im := im) (Q := Q) h.1
  simp only [e] at hnw
  by_cases c1 : a = -1 ∨ (gt (im (t + 1)) a 0 = 2 ∧ gt (im (t + 1)) a 3 = 1)
  · by_cases c2 : 0 ≤ k ∧ k < 2
    · have hg := fun Q => c_gather (d := d) (im := im) (Q := Q) (a := a) (kd := k) ht zSh_125 hb c2 hn
      rw [if_pos ⟨c1, c2⟩]
      simp (disch := omega) only [en_121, wp_zreturn rk_121, pg_121_0, pg_121_23, pg_121_25, cw_1, cw_33, cw_56, cw_137, wp_iload, wp_aload, wp_istore, wp_astore, wp_iinc, wp_iconst, wp_dup, wp_dup2, wp_pop, wp_iadd, wp_isub, wp_imul, wp_idiv, wp_irem, wp_ineg, wp_iand, wp_ior, wp_ixor, wp_ishl, wp_ishr, wp_getI, wp_putI, wp_getR, wp_goto, wp_goto_w, wq_if_eq, wq_if_ne, wq_if_lt, wq_if_ge, wq_if_gt, wq_if_le, wq_icmp_eq, wq_icmp_ne, wq_icmp_lt, wq_icmp_ge, wq_icmp_gt, wq_icmp_le, wp_max, wp_min, kI_inl, kR_some, kN_inl, kO_some, KT_none, KT_some, List.length_cons, List.length_nil, Nat.reduceAdd, Nat.reduceLT, Nat.reduceLeDiff, Nat.reduceMod, Nat.reduceDiv, true_and, and_true, Int.reduceLE, Int.reduceNeg, Int.reduceLT, Int.cast_ofNat_Int, Nat.zero_le, zI, Int.reduceAdd, Int.reduceSub, Int.reduceMul, not_true_eq_false, not_false_eq_true, false_implies, true_implies, i01_0, i01_1, ite_not, ↓reduceIte, zget_0, zget_1, zget_2, zget_3, zget_4, zget_5, zget_6, zget_7, zget_8, zget_9, zget_10, zset_0, zset_1, zset_2, zset_3, zset_4, zset_5, zset_6, zset_7, zset_8, zset_9, zset_10, kd_0, kd_1, kt_120, rf_0_0, rf_0_1, rf_0_2, rf_0_3, rf_0_4, rf_0_5, rf_0_6, rf_0_7, kd_131, kd_138, kd_164, kt, hnw, c_isBusOn ht, c_isKind, hg]
      rw [if_pos c1, if_pos c2]
      simp only [show ¬ (1 : Int) = 0 by omega, if_false, or_true, true_and, if_true, ks_125]
      exact Iff.rfl
    · rw [if_neg (fun q => c2 q.2)]
      simp (disch := omega) only [en_121, wp_zreturn rk_121, pg_121_0, pg_121_23, pg_121_25, cw_1, cw_33, cw_56, cw_137, wp_iload, wp_aload, wp_istore, wp_astore, wp_iinc, wp_iconst, wp_dup, wp_dup2, wp_pop, wp_iadd, wp_isub, wp_imul, wp_idiv, wp_irem, wp_ineg, wp_iand, wp_ior, wp_ixor, wp_ishl, wp_ishr, wp_getI, wp_putI, wp_getR, wp_goto, wp_goto_w, wq_if_eq, wq_if_ne, wq_if_lt, wq_if_ge, wq_if_gt, wq_if_le, wq_icmp_eq, wq_icmp_ne, wq_icmp_lt, wq_icmp_ge, wq_icmp_gt, wq_icmp_le, wp_max, wp_min, kI_inl, kR_some, kN_inl, kO_some, KT_none, KT_some, List.length_cons, List.length_nil, Nat.reduceAdd, Nat.reduceLT, Nat.reduceLeDiff, Nat.reduceMod, Nat.reduceDiv, true_and, and_true, Int.reduceLE, Int.reduceNeg, Int.reduceLT, Int.cast_ofNat_Int, Nat.zero_le, zI, Int.reduceAdd, Int.reduceSub, Int.reduceMul, not_true_eq_false, not_false_eq_true, false_implies, true_implies, i01_0, i01_1, ite_not, ↓reduceIte, zget_0, zget_1, zget_2, zget_3, zget_4, zget_5, zget_6, zget_7, zget_8, zget_9, zget_10, zset_0, zset_1, zset_2, zset_3, zset_4, zset_5, zset_6, zset_7, zset_8, zset_9, zset_10, kd_0, kd_1, kt_120, rf_0_0, rf_0_1, rf_0_2, rf_0_3, rf_0_4, rf_0_5, rf_0_6, rf_0_7, kd_131, kd_138, kd_164, kt, hnw, c_isBusOn ht, c_isKind]
      rw [if_pos c1, if_neg c2]
      try simp only [show ¬ (1 : Int) = 0 by omega, if_false, true_or, true_and, if_true]
  · rw [if_neg (fun q => c1 q.1)]
    simp (disch := omega) only [en_121, wp_zreturn rk_121, pg_121_0, pg_121_23, pg_121_25, cw_1, cw_33, cw_56, cw_137, wp_iload, wp_aload, wp_istore, wp_astore, wp_iinc, wp_iconst, wp_dup, wp_dup2, wp_pop, wp_iadd, wp_isub, wp_imul, wp_idiv, wp_irem, wp_ineg, wp_iand, wp_ior, wp_ixor, wp_ishl, wp_ishr, wp_getI, wp_putI, wp_getR, wp_goto, wp_goto_w, wq_if_eq, wq_if_ne, wq_if_lt, wq_if_ge, wq_if_gt, wq_if_le, wq_icmp_eq, wq_icmp_ne, wq_icmp_lt, wq_icmp_ge, wq_icmp_gt, wq_icmp_le, wp_max, wp_min, kI_inl, kR_some, kN_inl, kO_some, KT_none, KT_some, List.length_cons, List.length_nil, Nat.reduceAdd, Nat.reduceLT, Nat.reduceLeDiff, Nat.reduceMod, Nat.reduceDiv, true_and, and_true, Int.reduceLE, Int.reduceNeg, Int.reduceLT, Int.cast_ofNat_Int, Nat.zero_le, zI, Int.reduceAdd, Int.reduceSub, Int.reduceMul, not_true_eq_false, not_false_eq_true, false_implies, true_implies, i01_0, i01_1, ite_not, ↓reduceIte, zget_0, zget_1, zget_2, zget_3, zget_4, zget_5, zget_6, zget_7, zget_8, zget_9, zget_10, zset_0, zset_1, zset_2, zset_3, zset_4, zset_5, zset_6, zset_7, zset_8, zset_9, zset_10, kd_0, kd_1, kt_120, rf_0_0, rf_0_1, rf_0_2, rf_0_3, rf_0_4, rf_0_5, rf_0_6, rf_0_7, kd_131, kd_138, kd_164, kt, hnw, c_isBusOn ht]
    rw [if_neg c1]
    try simp only [show ¬ (1 : Int) = 0 by omega, if_false, true_or, true_and, if_true]
theorem hsZ_SG {k : Int} (hc : TG (im (t + 1))) (hk : 0 ≤ k ∧ k < 2) : SG (hsZ im t a k) := SG_gat hc hk
theorem hsM_sz {k : Int} : hsM im t a k 129 = (hsZ im t a k).2.2.2.1 := congrArg (fun z : zSS => z.2.2.2.1) (hsM_g (im := im) (t := t) (a := a) (k := k))
theorem c_gap (h : HH im) (e : nowT (im 1 1) = t) (hn : im t 4 ≤ 20) (hc : TG (im (t + 1))) (hl : hsB (im (t + 1)) a k → 0 ≤ lenf (im (t + 1)) (im (t + 2)) a k ∧ lenf (im (t + 1)) (im (t + 2)) a k ≤ 1048576) : CallP (d + 5) 118 [.inr (some 0), .inl a, .inl k] im Q ↔ if hsB (im (t + 1)) a k then Q (some (.inl (lenf (im (t + 1)) (im (t + 2)) a k - totS (hsZ im t a k)))) (hsM im t a k) else Q (some (.inl (-2))) im := by
  have ht : zT t := e ▸ nowT_z h.1
  have kt := (zT_k ht).1
  have hnw := fun d Q => c_now (d := d) (im := im) (Q := Q) h.1
  simp only [e] at hnw
  have hlt := nowT_lt h.1
  have hh := fun Q => c_hasShelf (d := d) (im := im) (a := a) (k := k) (Q := Q) h e hn hc.1
  by_cases c1 : hsB (im (t + 1)) a k
  · have hS := hsZ_SG (a := a) hc c1.2
    have e1 : hsM im t a k 1 = im 1 := hsM_ne (by omega)
    have et1 : hsM im t a k (t + 1) = im (t + 1) := hsM_ne (by omega)
    have et2 : hsM im t a k (t + 2) = im (t + 2) := hsM_ne (by omega)
    have hnw2 := fun d Q => c_now (d := d) (im := hsM im t a k) (Q := Q) (by rw [e1]; exact h.1)
    have hle := fun Q => c_length (d := d + 3) (im := hsM im t a k) (dv := a) (f := k) (Q := Q) ht c1.2
    have htb := totS_bd hS
    have hll := hl c1
    have hto := fun Q => c_total (d := d + 3) (im := hsM im t a k) (Q := Q) zSh_125 (by
      intro i q0 q1 q2
      have q3 := (hS.2.2 i q0 q2).2.2.1
      rw [hsM_sz]
      omega)
    simp only [hsM_g] at hto
    simp only [et1, et2] at hle
    simp only [e1, e] at hnw2
    rw [if_pos c1]
    simp only [if_pos c1] at hh
    simp (disch := omega) only [en_118, wp_ireturn rk_118, pg_118_0, pg_118_12, cw_1, cw_41, cw_60, cw_121, wp_iload, wp_aload, wp_istore, wp_astore, wp_iinc, wp_iconst, wp_dup, wp_dup2, wp_pop, wp_iadd, wp_isub, wp_imul, wp_idiv, wp_irem, wp_ineg, wp_iand, wp_ior, wp_ixor, wp_ishl, wp_ishr, wp_getI, wp_putI, wp_getR, wp_goto, wp_goto_w, wq_if_eq, wq_if_ne, wq_if_lt, wq_if_ge, wq_if_gt, wq_if_le, wq_icmp_eq, wq_icmp_ne, wq_icmp_lt, wq_icmp_ge, wq_icmp_gt, wq_icmp_le, wp_max, wp_min, kI_inl, kR_some, kN_inl, kO_some, KT_none, KT_some, List.length_cons, List.length_nil, Nat.reduceAdd, Nat.reduceLT, Nat.reduceLeDiff, Nat.reduceMod, Nat.reduceDiv, true_and, and_true, Int.reduceLE, Int.reduceNeg, Int.reduceLT, Int.cast_ofNat_Int, Nat.zero_le, zI, Int.reduceAdd, Int.reduceSub, Int.reduceMul, not_true_eq_false, not_false_eq_true, false_implies, true_implies, i01_0, i01_1, ite_not, ↓reduceIte, zget_0, zget_1, zget_2, zget_3, zget_4, zget_5, zget_6, zget_7, zget_8, zget_9, zget_10, zset_0, zset_1, zset_2, zset_3, zset_4, zset_5, zset_6, zset_7, zset_8, zset_9, zset_10, kd_0, kd_1, kt_120, rf_0_0, rf_0_1, rf_0_2, rf_0_3, rf_0_4, rf_0_5, rf_0_6, rf_0_7, kd_131, kd_138, kd_164, kt, ks_125, hh, hnw2, hle, hto]
    simp only [show ¬ (1 : Int) = 0 by omega, if_false, not_false_eq_true, if_true]
    try (repeat (refine (and_iff_right (by omega)).trans ?_))
    try exact Iff.rfl
  · rw [if_neg c1]
    simp only [if_neg c1] at hh
    simp (disch := omega) only [en_118, wp_ireturn rk_118, pg_118_0, pg_118_12, cw_1, cw_41, cw_60, cw_121, wp_iload, wp_aload, wp_istore, wp_astore, wp_iinc, wp_iconst, wp_dup, wp_dup2, wp_pop, wp_iadd, wp_isub, wp_imul, wp_idiv, wp_irem, wp_ineg, wp_iand, wp_ior, wp_ixor, wp_ishl, wp_ishr, wp_getI, wp_putI, wp_getR, wp_goto, wp_goto_w, wq_if_eq, wq_if_ne, wq_if_lt, wq_if_ge, wq_if_gt, wq_if_le, wq_icmp_eq, wq_icmp_ne, wq_icmp_lt, wq_icmp_ge, wq_icmp_gt, wq_icmp_le, wp_max, wp_min, kI_inl, kR_some, kN_inl, kO_some, KT_none, KT_some, List.length_cons, List.length_nil, Nat.reduceAdd, Nat.reduceLT, Nat.reduceLeDiff, Nat.reduceMod, Nat.reduceDiv, true_and, and_true, Int.reduceLE, Int.reduceNeg, Int.reduceLT, Int.cast_ofNat_Int, Nat.zero_le, zI, Int.reduceAdd, Int.reduceSub, Int.reduceMul, not_true_eq_false, not_false_eq_true, false_implies, true_implies, i01_0, i01_1, ite_not, ↓reduceIte, zget_0, zget_1, zget_2, zget_3, zget_4, zget_5, zget_6, zget_7, zget_8, zget_9, zget_10, zset_0, zset_1, zset_2, zset_3, zset_4, zset_5, zset_6, zset_7, zset_8, zset_9, zset_10, kd_0, kd_1, kt_120, rf_0_0, rf_0_1, rf_0_2, rf_0_3, rf_0_4, rf_0_5, rf_0_6, rf_0_7, kd_131, kd_138, kd_164, kt, hh]
    try simp only [show ¬ (1 : Int) = 0 by omega, if_false, not_false_eq_true, if_true, not_true_eq_false]
theorem zshl_bd {e : Int} (h : 0 ≤ e ∧ e ≤ 8) : 1 ≤ zshl 1 e ∧ zshl 1 e ≤ 256 := by
  rcases (show e = 0 ∨ e = 1 ∨ e = 2 ∨ e = 3 ∨ e = 4 ∨ e = 5 ∨ e = 6 ∨ e = 7 ∨ e = 8 by omega) with rfl | rfl | rfl | rfl | rfl | rfl | rfl | rfl | rfl <;> decide
noncomputable def roS (z : zSS) (bg en : Int) : Nat → Int
  | 0 => -1
  | m + 1 => if lowS z (zshl 1 (m : Nat)) (zshl 1 (m : Nat)) bg en = -1 then roS z bg en m else (m : Nat)
theorem l_room {z : zSS} (hS : SG z) {bg en : Int} (hb : 0 ≤ bg ∧ bg ≤ 1048576) {x1 x2 x3 : zV} (hg : gsh im 125 = z) : ∀ (m : Nat), m ≤ 9 → ∀ Q, wp none (d + 2) 119 (zpg 119 43) [.inr (some 0), x1, x2, x3, .inl bg, .inl en, .inl ((m : Int) - 1)] [] im Q ↔ Q (some (.inl (roS z bg en m))) im
  | 0, h0, Q => by
    rw [pg_119_43]
    simp (disch := omega) only [wp_ireturn rk_119, pg_119_12, pg_119_74, pg_119_80, cw_1, cw_43, cw_59, cw_60, cw_121, wp_iload, wp_aload, wp_istore, wp_astore, wp_iinc, wp_iconst, wp_dup, wp_dup2, wp_pop, wp_iadd, wp_isub, wp_imul, wp_idiv, wp_irem, wp_ineg, wp_iand, wp_ior, wp_ixor, wp_ishl, wp_ishr, wp_getI, wp_putI, wp_getR, wp_goto, wp_goto_w, wq_if_eq, wq_if_ne, wq_if_lt, wq_if_ge, wq_if_gt, wq_if_le, wq_icmp_eq, wq_icmp_ne, wq_icmp_lt, wq_icmp_ge, wq_icmp_gt, wq_icmp_le, wp_max, wp_min, kI_inl, kR_some, kN_inl, kO_some, KT_none, KT_some, List.length_cons, List.length_nil, Nat.reduceAdd, Nat.reduceLT, Nat.reduceLeDiff, Nat.reduceMod, Nat.reduceDiv, true_and, and_true, Int.reduceLE, Int.reduceNeg, Int.reduceLT, Int.cast_ofNat_Int, Nat.zero_le, zI, Int.reduceAdd, Int.reduceSub, Int.reduceMul, not_true_eq_false, not_false_eq_true, false_implies, true_implies, i01_0, i01_1, ite_not, ↓reduceIte, zget_0, zget_1, zget_2, zget_3, zget_4, zget_5, zget_6, zget_7, zget_8, zget_9, zget_10, zset_0, zset_1, zset_2, zset_3, zset_4, zset_5, zset_6, zset_7, zset_8, zset_9, zset_10, show ((0 : Nat) : Int) - 1 < 0 by omega, if_true, roS]
  | m + 1, h0, Q => by
    have ih := l_room hS hb (en := en) (x1 := x1) (x2 := x2) (x3 := x3) hg m (by omega) Q
    have hz := zshl_bd (e := (m : Nat)) (by omega)
    have e1 : ((m + 1 : Nat) : Int) - 1 = m := by omega
    have hlo := fun Q => c_lowest (d := d) (im := im) (Q := Q) zSh_125 (SBx_of hS hg) (un := zshl 1 (m : Nat)) (st := zshl 1 (m : Nat)) (bg := bg) (en := en) (by have q := hS.1; have q1 := hS.2.1; rw [← hg] at q q1; exact ⟨q, by have e : (gsh im 125).2.2.2.2.2 = im 125 5 := rfl; omega⟩) (by omega) (by omega) (by omega)
    simp only [hg] at hlo
    rw [pg_119_43, e1]
    by_cases c1 : lowS z (zshl 1 (m : Nat)) (zshl 1 (m : Nat)) bg en = -1
    · simp (disch := omega) only [wp_ireturn rk_119, pg_119_12, pg_119_74, pg_119_80, cw_1, cw_43, cw_59, cw_60, cw_121, wp_iload, wp_aload, wp_istore, wp_astore, wp_iinc, wp_iconst, wp_dup, wp_dup2, wp_pop, wp_iadd, wp_isub, wp_imul, wp_idiv, wp_irem, wp_ineg, wp_iand, wp_ior, wp_ixor, wp_ishl, wp_ishr, wp_getI, wp_putI, wp_getR, wp_goto, wp_goto_w, wq_if_eq, wq_if_ne, wq_if_lt, wq_if_ge, wq_if_gt, wq_if_le, wq_icmp_eq, wq_icmp_ne, wq_icmp_lt, wq_icmp_ge, wq_icmp_gt, wq_icmp_le, wp_max, wp_min, kI_inl, kR_some, kN_inl, kO_some, KT_none, KT_some, List.length_cons, List.length_nil, Nat.reduceAdd, Nat.reduceLT, Nat.reduceLeDiff, Nat.reduceMod, Nat.reduceDiv, true_and, and_true, Int.reduceLE, Int.reduceNeg, Int.reduceLT, Int.cast_ofNat_Int, Nat.zero_le, zI, Int.reduceAdd, Int.reduceSub, Int.reduceMul, not_true_eq_false, not_false_eq_true, false_implies, true_implies, i01_0, i01_1, ite_not, ↓reduceIte, zget_0, zget_1, zget_2, zget_3, zget_4, zget_5, zget_6, zget_7, zget_8, zget_9, zget_10, zset_0, zset_1, zset_2, zset_3, zset_4, zset_5, zset_6, zset_7, zset_8, zset_9, zset_10, kd_0, kd_1, kt_120, rf_0_0, rf_0_1, rf_0_2, rf_0_3, rf_0_4, rf_0_5, rf_0_6, rf_0_7, kd_131, kd_138, kd_164, ks_125, show ¬ (m : Int) < 0 by omega, if_false, hlo, c1, if_true, roS]
      rw [show (m : Int) + -1 = (m : Int) - 1 by omega]
      repeat (refine (and_iff_right (by omega)).trans ?_)
      exact ih
    · simp (disch := omega) only [wp_ireturn rk_119, pg_119_12, pg_119_74, pg_119_80, cw_1, cw_43, cw_59, cw_60, cw_121, wp_iload, wp_aload, wp_istore, wp_astore, wp_iinc, wp_iconst, wp_dup, wp_dup2, wp_pop, wp_iadd, wp_isub, wp_imul, wp_idiv, wp_irem, wp_ineg, wp_iand, wp_ior, wp_ixor, wp_ishl, wp_ishr, wp_getI, wp_putI, wp_getR, wp_goto, wp_goto_w, wq_if_eq, wq_if_ne, wq_if_lt, wq_if_ge, wq_if_gt, wq_if_le, wq_icmp_eq, wq_icmp_ne, wq_icmp_lt, wq_icmp_ge, wq_icmp_gt, wq_icmp_le, wp_max, wp_min, kI_inl, kR_some, kN_inl, kO_some, KT_none, KT_some, List.length_cons, List.length_nil, Nat.reduceAdd, Nat.reduceLT, Nat.reduceLeDiff, Nat.reduceMod, Nat.reduceDiv, true_and, and_true, Int.reduceLE, Int.reduceNeg, Int.reduceLT, Int.cast_ofNat_Int, Nat.zero_le, zI, Int.reduceAdd, Int.reduceSub, Int.reduceMul, not_true_eq_false, not_false_eq_true, false_implies, true_implies, i01_0, i01_1, ite_not, ↓reduceIte, zget_0, zget_1, zget_2, zget_3, zget_4, zget_5, zget_6, zget_7, zget_8, zget_9, zget_10, zset_0, zset_1, zset_2, zset_3, zset_4, zset_5, zset_6, zset_7, zset_8, zset_9, zset_10, kd_0, kd_1, kt_120, rf_0_0, rf_0_1, rf_0_2, rf_0_3, rf_0_4, rf_0_5, rf_0_6, rf_0_7, kd_131, kd_138, kd_164, ks_125, show ¬ (m : Int) < 0 by omega, if_false, hlo, c1, roS]
      try (repeat (refine (and_iff_right (by omega)).trans ?_))
      try exact Iff.rfl
theorem c_room (h : HH im) (e : nowT (im 1 1) = t) (hn : im t 4 ≤ 20) (hc : TG (im (t + 1))) (hl : hsB (im (t + 1)) a k → BuOK (im (t + 1)) (im (t + 2)) a k) : CallP (d + 5) 119 [.inr (some 0), .inl a, .inl k] im Q ↔ if hsB (im (t + 1)) a k then Q (some (.inl (roS (hsZ im t a k) (begf (im (t + 1)) a k) (begf (im (t + 1)) a k + lenf (im (t + 1)) (im (t + 2)) a k) 9))) (hsM im t a k) else Q (some (.inl (-2))) im := by
  have ht : zT t := e ▸ nowT_z h.1
  have kt := (zT_k ht).1
  have hnw := fun d Q => c_now (d := d) (im := im) (Q := Q) h.1
  simp only [e] at hnw
  have hlt := nowT_lt h.1
  have hh := fun Q => c_hasShelf (d := d) (im := im) (a := a) (k := k) (Q := Q) h e hn hc.1
  by_cases c1 : hsB (im (t + 1)) a k
  · have hS := hsZ_SG (a := a) hc c1.2
    have e1 : hsM im t a k 1 = im 1 := hsM_ne (by omega)
    have et1 : hsM im t a k (t + 1) = im (t + 1) := hsM_ne (by omega)
    have et2 : hsM im t a k (t + 2) = im (t + 2) := hsM_ne (by omega)
    have hnw2 := fun d Q => c_now (d := d) (im := hsM im t a k) (Q := Q) (by rw [e1]; exact h.1)
    have hle := fun Q => c_length (d := d + 3) (im := hsM im t a k) (dv := a) (f := k) (Q := Q) ht c1.2
    have hbe := fun Q => c_begin (d := d + 3) (im := hsM im t a k) (dv := a) (f := k) (Q := Q) ht c1.2
    have hll := hl c1
    simp only [et1, et2] at hle hbe
    simp only [e1, e] at hnw2
    have hr := l_room (d := d + 3) (im := hsM im t a k) hS (bg := begf (im (t + 1)) a k) (en := begf (im (t + 1)) a k + lenf (im (t + 1)) (im (t + 2)) a k) (x1 := .inl a) (x2 := .inl k) (x3 := .inr (some t)) hll.1 hsM_g 9 (by omega) Q
    rw [if_pos c1]
    simp only [if_pos c1] at hh
    simp (disch := omega) only [en_119, wp_ireturn rk_119, pg_119_0, pg_119_12, pg_119_74, pg_119_80, cw_1, cw_43, cw_59, cw_60, cw_121, wp_iload, wp_aload, wp_istore, wp_astore, wp_iinc, wp_iconst, wp_dup, wp_dup2, wp_pop, wp_iadd, wp_isub, wp_imul, wp_idiv, wp_irem, wp_ineg, wp_iand, wp_ior, wp_ixor, wp_ishl, wp_ishr, wp_getI, wp_putI, wp_getR, wp_goto, wp_goto_w, wq_if_eq, wq_if_ne, wq_if_lt, wq_if_ge, wq_if_gt, wq_if_le, wq_icmp_eq, wq_icmp_ne, wq_icmp_lt, wq_icmp_ge, wq_icmp_gt, wq_icmp_le, wp_max, wp_min, kI_inl, kR_some, kN_inl, kO_some, KT_none, KT_some, List.length_cons, List.length_nil, Nat.reduceAdd, Nat.reduceLT, Nat.reduceLeDiff, Nat.reduceMod, Nat.reduceDiv, true_and, and_true, Int.reduceLE, Int.reduceNeg, Int.reduceLT, Int.cast_ofNat_Int, Nat.zero_le, zI, Int.reduceAdd, Int.reduceSub, Int.reduceMul, not_true_eq_false, not_false_eq_true, false_implies, true_implies, i01_0, i01_1, ite_not, ↓reduceIte, zget_0, zget_1, zget_2, zget_3, zget_4, zget_5, zget_6, zget_7, zget_8, zget_9, zget_10, zset_0, zset_1, zset_2, zset_3, zset_4, zset_5, zset_6, zset_7, zset_8, zset_9, zset_10, kd_0, kd_1, kt_120, rf_0_0, rf_0_1, rf_0_2, rf_0_3, rf_0_4, rf_0_5, rf_0_6, rf_0_7, kd_131, kd_138, kd_164, kt, ks_125, hh, hnw2, hle, hbe]
    simp only [show ¬ (1 : Int) = 0 by omega, if_false, not_false_eq_true, if_true]
    repeat (refine (and_iff_right (by omega)).trans ?_)
    exact hr
  · rw [if_neg c1]
    simp only [if_neg c1] at hh
    simp (disch := omega) only [en_119, wp_ireturn rk_119, pg_119_0, pg_119_12, pg_119_74, pg_119_80, cw_1, cw_43, cw_59, cw_60, cw_121, wp_iload, wp_aload, wp_istore, wp_astore, wp_iinc, wp_iconst, wp_dup, wp_dup2, wp_pop, wp_iadd, wp_isub, wp_imul, wp_idiv, wp_irem, wp_ineg, wp_iand, wp_ior, wp_ixor, wp_ishl, wp_ishr, wp_getI, wp_putI, wp_getR, wp_goto, wp_goto_w, wq_if_eq, wq_if_ne, wq_if_lt, wq_if_ge, wq_if_gt, wq_if_le, wq_icmp_eq, wq_icmp_ne, wq_icmp_lt, wq_icmp_ge, wq_icmp_gt, wq_icmp_le, wp_max, wp_min, kI_inl, kR_some, kN_inl, kO_some, KT_none, KT_some, List.length_cons, List.length_nil, Nat.reduceAdd, Nat.reduceLT, Nat.reduceLeDiff, Nat.reduceMod, Nat.reduceDiv, true_and, and_true, Int.reduceLE, Int.reduceNeg, Int.reduceLT, Int.cast_ofNat_Int, Nat.zero_le, zI, Int.reduceAdd, Int.reduceSub, Int.reduceMul, not_true_eq_false, not_false_eq_true, false_implies, true_implies, i01_0, i01_1, ite_not, ↓reduceIte, zget_0, zget_1, zget_2, zget_3, zget_4, zget_5, zget_6, zget_7, zget_8, zget_9, zget_10, zset_0, zset_1, zset_2, zset_3, zset_4, zset_5, zset_6, zset_7, zset_8, zset_9, zset_10, kd_0, kd_1, kt_120, rf_0_0, rf_0_1, rf_0_2, rf_0_3, rf_0_4, rf_0_5, rf_0_6, rf_0_7, kd_131, kd_138, kd_164, kt, hh]
    try simp only [show ¬ (1 : Int) = 0 by omega, if_false, not_false_eq_true, if_true, not_true_eq_false]
noncomputable def fiS (z : zSS) (sz en : Int) : Nat → Int → Int → Int
  | 0, _, _ => 1024
  | m + 1, cn, bg => if lowS z sz sz bg en = -1 then cn else fiS z sz en m (cn + 1) (lowS z sz sz bg en + sz)
theorem l_fill {z : zSS} (hS : SG z) {en sz : Int} (hsz : 1 ≤ sz ∧ sz ≤ 256) (hen : en ≤ 1048576) {x1 x2 x3 x4 : zV} (hg : gsh im 125 = z) : ∀ (m : Nat) (cn bg : Int) (x9 : zV), 0 ≤ cn → cn + m = 1024 → 0 ≤ bg ∧ bg ≤ 1048576 → ∀ Q, wp none (d + 2) 120 (zpg 120 57) [.inr (some 0), x1, x2, x3, x4, .inl sz, .inl bg, .inl en, .inl cn, x9] [] im Q ↔ Q (some (.inl (fiS z sz en m cn bg))) im
  | 0, cn, bg, x9, h0, h1, hb, Q => by
    rw [pg_120_57]
    simp (disch := omega) only [wp_ireturn rk_120, pg_120_16, pg_120_19, pg_120_91, pg_120_104, cw_1, cw_43, cw_59, cw_60, cw_121, cw_138, wp_iload, wp_aload, wp_istore, wp_astore, wp_iinc, wp_iconst, wp_dup, wp_dup2, wp_pop, wp_iadd, wp_isub, wp_imul, wp_idiv, wp_irem, wp_ineg, wp_iand, wp_ior, wp_ixor, wp_ishl, wp_ishr, wp_getI, wp_putI, wp_getR, wp_goto, wp_goto_w, wq_if_eq, wq_if_ne, wq_if_lt, wq_if_ge, wq_if_gt, wq_if_le, wq_icmp_eq, wq_icmp_ne, wq_icmp_lt, wq_icmp_ge, wq_icmp_gt, wq_icmp_le, wp_max, wp_min, kI_inl, kR_some, kN_inl, kO_some, KT_none, KT_some, List.length_cons, List.length_nil, Nat.reduceAdd, Nat.reduceLT, Nat.reduceLeDiff, Nat.reduceMod, Nat.reduceDiv, true_and, and_true, Int.reduceLE, Int.reduceNeg, Int.reduceLT, Int.cast_ofNat_Int, Nat.zero_le, zI, Int.reduceAdd, Int.reduceSub, Int.reduceMul, not_true_eq_false, not_false_eq_true, false_implies, true_implies, i01_0, i01_1, ite_not, ↓reduceIte, zget_0, zget_1, zget_2, zget_3, zget_4, zget_5, zget_6, zget_7, zget_8, zget_9, zget_10, zset_0, zset_1, zset_2, zset_3, zset_4, zset_5, zset_6, zset_7, zset_8, zset_9, zset_10, show 1024 ≤ cn by omega, if_true, fiS]
    try (repeat (refine (and_iff_right (by omega)).trans ?_))
    try exact Iff.rfl
  | m + 1, cn, bg, x9, h0, h1, hb, Q => by
    have hlo := fun Q => c_lowest (d := d) (im := im) (Q := Q) zSh_125 (SBx_of hS hg) (un := sz) (st := sz) (bg := bg) (en := en) (by have q := hS.1; have q1 := hS.2.1; rw [← hg] at q q1; exact ⟨q, by have e : (gsh im 125).2.2.2.2.2 = im 125 5 := rfl; omega⟩) (by omega) (by omega) (by omega)
    simp only [hg] at hlo
    have hlc := lowS_cases hS (un := sz) (st := sz) (bg := bg) (en := en) (by omega) hb
    rw [pg_120_57]
    by_cases c1 : lowS z sz sz bg en = -1
    · simp (disch := omega) only [wp_ireturn rk_120, pg_120_16, pg_120_19, pg_120_91, pg_120_104, cw_1, cw_43, cw_59, cw_60, cw_121, cw_138, wp_iload, wp_aload, wp_istore, wp_astore, wp_iinc, wp_iconst, wp_dup, wp_dup2, wp_pop, wp_iadd, wp_isub, wp_imul, wp_idiv, wp_irem, wp_ineg, wp_iand, wp_ior, wp_ixor, wp_ishl, wp_ishr, wp_getI, wp_putI, wp_getR, wp_goto, wp_goto_w, wq_if_eq, wq_if_ne, wq_if_lt, wq_if_ge, wq_if_gt, wq_if_le, wq_icmp_eq, wq_icmp_ne, wq_icmp_lt, wq_icmp_ge, wq_icmp_gt, wq_icmp_le, wp_max, wp_min, kI_inl, kR_some, kN_inl, kO_some, KT_none, KT_some, List.length_cons, List.length_nil, Nat.reduceAdd, Nat.reduceLT, Nat.reduceLeDiff, Nat.reduceMod, Nat.reduceDiv, true_and, and_true, Int.reduceLE, Int.reduceNeg, Int.reduceLT, Int.cast_ofNat_Int, Nat.zero_le, zI, Int.reduceAdd, Int.reduceSub, Int.reduceMul, not_true_eq_false, not_false_eq_true, false_implies, true_implies, i01_0, i01_1, ite_not, ↓reduceIte, zget_0, zget_1, zget_2, zget_3, zget_4, zget_5, zget_6, zget_7, zget_8, zget_9, zget_10, zset_0, zset_1, zset_2, zset_3, zset_4, zset_5, zset_6, zset_7, zset_8, zset_9, zset_10, kd_0, kd_1, kt_120, rf_0_0, rf_0_1, rf_0_2, rf_0_3, rf_0_4, rf_0_5, rf_0_6, rf_0_7, kd_131, kd_138, kd_164, ks_125, show ¬ 1024 ≤ cn by omega, if_false, hlo, c1, if_true, fiS]
      try (repeat (refine (and_iff_right (by omega)).trans ?_))
      try exact Iff.rfl
    · have ih := fun x9 => l_fill hS hsz hen (x1 := x1) (x2 := x2) (x3 := x3) (x4 := x4) hg m (cn + 1) (lowS z sz sz bg en + sz) x9 (by omega) (by omega) (by omega) Q
      simp (disch := omega) only [wp_ireturn rk_120, pg_120_16, pg_120_19, pg_120_91, pg_120_104, cw_1, cw_43, cw_59, cw_60, cw_121, cw_138, wp_iload, wp_aload, wp_istore, wp_astore, wp_iinc, wp_iconst, wp_dup, wp_dup2, wp_pop, wp_iadd, wp_isub, wp_imul, wp_idiv, wp_irem, wp_ineg, wp_iand, wp_ior, wp_ixor, wp_ishl, wp_ishr, wp_getI, wp_putI, wp_getR, wp_goto, wp_goto_w, wq_if_eq, wq_if_ne, wq_if_lt, wq_if_ge, wq_if_gt, wq_if_le, wq_icmp_eq, wq_icmp_ne, wq_icmp_lt, wq_icmp_ge, wq_icmp_gt, wq_icmp_le, wp_max, wp_min, kI_inl, kR_some, kN_inl, kO_some, KT_none, KT_some, List.length_cons, List.length_nil, Nat.reduceAdd, Nat.reduceLT, Nat.reduceLeDiff, Nat.reduceMod, Nat.reduceDiv, true_and, and_true, Int.reduceLE, Int.reduceNeg, Int.reduceLT, Int.cast_ofNat_Int, Nat.zero_le, zI, Int.reduceAdd, Int.reduceSub, Int.reduceMul, not_true_eq_false, not_false_eq_true, false_implies, true_implies, i01_0, i01_1, ite_not, ↓reduceIte, zget_0, zget_1, zget_2, zget_3, zget_4, zget_5, zget_6, zget_7, zget_8, zget_9, zget_10, zset_0, zset_1, zset_2, zset_3, zset_4, zset_5, zset_6, zset_7, zset_8, zset_9, zset_10, kd_0, kd_1, kt_120, rf_0_0, rf_0_1, rf_0_2, rf_0_3, rf_0_4, rf_0_5, rf_0_6, rf_0_7, kd_131, kd_138, kd_164, ks_125, show ¬ 1024 ≤ cn by omega, if_false, hlo, c1, fiS]
      repeat (refine (and_iff_right (by omega)).trans ?_)
      exact ih _
theorem c_fill (h : HH im) (e : nowT (im 1 1) = t) (hn : im t 4 ≤ 20) (hc : TG (im (t + 1))) (hl : hsB (im (t + 1)) a k → BuOK (im (t + 1)) (im (t + 2)) a k) {x : Int} : CallP (d + 5) 120 [.inr (some 0), .inl a, .inl k, .inl x] im Q ↔ if hsB (im (t + 1)) a k then (if 0 ≤ x ∧ x ≤ 8 then Q (some (.inl (fiS (hsZ im t a k) (zshl 1 x) (begf (im (t + 1)) a k + lenf (im (t + 1)) (im (t + 2)) a k) 1024 0 (begf (im (t + 1)) a k)))) (hsM im t a k) else Q (some (.inl (-2))) (hsM im t a k)) else Q (some (.inl (-2))) im := by
  have ht : zT t := e ▸ nowT_z h.1
  have kt := (zT_k ht).1
  have hnw := fun d Q => c_now (d := d) (im := im) (Q := Q) h.1
  simp only [e] at hnw
  have hlt := nowT_lt h.1
  have hh := fun Q => c_hasShelf (d := d) (im := im) (a := a) (k := k) (Q := Q) h e hn hc.1
  by_cases c1 : hsB (im (t + 1)) a k
  · have hS := hsZ_SG (a := a) hc c1.2
    have e1 : hsM im t a k 1 = im 1 := hsM_ne (by omega)
    have et1 : hsM im t a k (t + 1) = im (t + 1) := hsM_ne (by omega)
    have et2 : hsM im t a k (t + 2) = im (t + 2) := hsM_ne (by omega)
    have hnw2 := fun d Q => c_now (d := d) (im := hsM im t a k) (Q := Q) (by rw [e1]; exact h.1)
    have hle := fun Q => c_length (d := d + 3) (im := hsM im t a k) (dv := a) (f := k) (Q := Q) ht c1.2
    have hbe := fun Q => c_begin (d := d + 3) (im := hsM im t a k) (dv := a) (f := k) (Q := Q) ht c1.2
    have hll := hl c1
    simp only [et1, et2] at hle hbe
    simp only [e1, e] at hnw2
    rw [if_pos c1]
    simp only [if_pos c1] at hh
    by_cases c2 : 0 ≤ x ∧ x ≤ 8
    · have hr := l_fill (d := d + 3) (im := hsM im t a k) hS (zshl_bd c2) (en := begf (im (t + 1)) a k + lenf (im (t + 1)) (im (t + 2)) a k) (by omega) (x1 := .inl a) (x2 := .inl k) (x3 := .inl x) (x4 := .inr (some t)) hsM_g 1024 0 (begf (im (t + 1)) a k) (.inr none) (by omega) (by omega) hll.1 Q
      rw [if_pos c2]
      simp (disch := omega) only [en_120, wp_ireturn rk_120, pg_120_0, pg_120_16, pg_120_19, pg_120_91, pg_120_104, cw_1, cw_43, cw_59, cw_60, cw_121, cw_138, wp_iload, wp_aload, wp_istore, wp_astore, wp_iinc, wp_iconst, wp_dup, wp_dup2, wp_pop, wp_iadd, wp_isub, wp_imul, wp_idiv, wp_irem, wp_ineg, wp_iand, wp_ior, wp_ixor, wp_ishl, wp_ishr, wp_getI, wp_putI, wp_getR, wp_goto, wp_goto_w, wq_if_eq, wq_if_ne, wq_if_lt, wq_if_ge, wq_if_gt, wq_if_le, wq_icmp_eq, wq_icmp_ne, wq_icmp_lt, wq_icmp_ge, wq_icmp_gt, wq_icmp_le, wp_max, wp_min, kI_inl, kR_some, kN_inl, kO_some, KT_none, KT_some, List.length_cons, List.length_nil, Nat.reduceAdd, Nat.reduceLT, Nat.reduceLeDiff, Nat.reduceMod, Nat.reduceDiv, true_and, and_true, Int.reduceLE, Int.reduceNeg, Int.reduceLT, Int.cast_ofNat_Int, Nat.zero_le, zI, Int.reduceAdd, Int.reduceSub, Int.reduceMul, not_true_eq_false, not_false_eq_true, false_implies, true_implies, i01_0, i01_1, ite_not, ↓reduceIte, zget_0, zget_1, zget_2, zget_3, zget_4, zget_5, zget_6, zget_7, zget_8, zget_9, zget_10, zset_0, zset_1, zset_2, zset_3, zset_4, zset_5, zset_6, zset_7, zset_8, zset_9, zset_10, kd_0, kd_1, kt_120, rf_0_0, rf_0_1, rf_0_2, rf_0_3, rf_0_4, rf_0_5, rf_0_6, rf_0_7, kd_131, kd_138, kd_164, kt, ks_125, hh, c_isExponent, hnw2, hle, hbe, c2, and_self, if_true]
      simp only [show ¬ (1 : Int) = 0 by omega, if_false, not_false_eq_true, if_true]
      repeat (refine (and_iff_right (by omega)).trans ?_)
      exact hr
    · rw [if_neg c2]
      simp (disch := omega) only [en_120, wp_ireturn rk_120, pg_120_0, pg_120_16, pg_120_19, pg_120_91, pg_120_104, cw_1, cw_43, cw_59, cw_60, cw_121, cw_138, wp_iload, wp_aload, wp_istore, wp_astore, wp_iinc, wp_iconst, wp_dup, wp_dup2, wp_pop, wp_iadd, wp_isub, wp_imul, wp_idiv, wp_irem, wp_ineg, wp_iand, wp_ior, wp_ixor, wp_ishl, wp_ishr, wp_getI, wp_putI, wp_getR, wp_goto, wp_goto_w, wq_if_eq, wq_if_ne, wq_if_lt, wq_if_ge, wq_if_gt, wq_if_le, wq_icmp_eq, wq_icmp_ne, wq_icmp_lt, wq_icmp_ge, wq_icmp_gt, wq_icmp_le, wp_max, wp_min, kI_inl, kR_some, kN_inl, kO_some, KT_none, KT_some, List.length_cons, List.length_nil, Nat.reduceAdd, Nat.reduceLT, Nat.reduceLeDiff, Nat.reduceMod, Nat.reduceDiv, true_and, and_true, Int.reduceLE, Int.reduceNeg, Int.reduceLT, Int.cast_ofNat_Int, Nat.zero_le, zI, Int.reduceAdd, Int.reduceSub, Int.reduceMul, not_true_eq_false, not_false_eq_true, false_implies, true_implies, i01_0, i01_1, ite_not, ↓reduceIte, zget_0, zget_1, zget_2, zget_3, zget_4, zget_5, zget_6, zget_7, zget_8, zget_9, zget_10, zset_0, zset_1, zset_2, zset_3, zset_4, zset_5, zset_6, zset_7, zset_8, zset_9, zset_10, kd_0, kd_1, kt_120, rf_0_0, rf_0_1, rf_0_2, rf_0_3, rf_0_4, rf_0_5, rf_0_6, rf_0_7, kd_131, kd_138, kd_164, kt, ks_125, hh, c_isExponent, if_neg c2]
      try simp only [show ¬ (1 : Int) = 0 by omega, if_false, not_false_eq_true, if_true, not_true_eq_false]
  · rw [if_neg c1]
    simp only [if_neg c1] at hh
    simp (disch := omega) only [en_120, wp_ireturn rk_120, pg_120_0, pg_120_16, pg_120_19, pg_120_91, pg_120_104, cw_1, cw_43, cw_59, cw_60, cw_121, cw_138, wp_iload, wp_aload, wp_istore, wp_astore, wp_iinc, wp_iconst, wp_dup, wp_dup2, wp_pop, wp_iadd, wp_isub, wp_imul, wp_idiv, wp_irem, wp_ineg, wp_iand, wp_ior, wp_ixor, wp_ishl, wp_ishr, wp_getI, wp_putI, wp_getR, wp_goto, wp_goto_w, wq_if_eq, wq_if_ne, wq_if_lt, wq_if_ge, wq_if_gt, wq_if_le, wq_icmp_eq, wq_icmp_ne, wq_icmp_lt, wq_icmp_ge, wq_icmp_gt, wq_icmp_le, wp_max, wp_min, kI_inl, kR_some, kN_inl, kO_some, KT_none, KT_some, List.length_cons, List.length_nil, Nat.reduceAdd, Nat.reduceLT, Nat.reduceLeDiff, Nat.reduceMod, Nat.reduceDiv, true_and, and_true, Int.reduceLE, Int.reduceNeg, Int.reduceLT, Int.cast_ofNat_Int, Nat.zero_le, zI, Int.reduceAdd, Int.reduceSub, Int.reduceMul, not_true_eq_false, not_false_eq_true, false_implies, true_implies, i01_0, i01_1, ite_not, ↓reduceIte, zget_0, zget_1, zget_2, zget_3, zget_4, zget_5, zget_6, zget_7, zget_8, zget_9, zget_10, zset_0, zset_1, zset_2, zset_3, zset_4, zset_5, zset_6, zset_7, zset_8, zset_9, zset_10, kd_0, kd_1, kt_120, rf_0_0, rf_0_1, rf_0_2, rf_0_3, rf_0_4, rf_0_5, rf_0_6, rf_0_7, kd_131, kd_138, kd_164, kt, hh]
    try simp only [show ¬ (1 : Int) = 0 by omega, if_false, not_false_eq_true, if_true, not_true_eq_false]
abbrev frA (c w : Int → Int) (n a b : Int) : Bool := decide (fre c w n a b)
theorem l_spare (ht : zT t) (hn : im t 4 ≤ 20) : ∀ (m : Nat) (i s : Int), 0 ≤ i → i + m = 32 → 0 ≤ s ∧ s ≤ i → ∀ Q, wp none (d + 3) 122 (zpg 122 24) [.inr (some 0), .inl a, .inr (some t), .inl s, .inl i] [] im Q ↔ Q (some (.inl (lp (cntf (frA (im (t + 1)) (im (t + 3)) (im t 4) a)) m i s))) im
  | 0, i, s, h0, h1, hs, Q => by
    rw [pg_122_24]
    simp (disch := omega) only [wp_ireturn rk_122, pg_122_19, pg_122_44, pg_122_50, cw_1, cw_56, cw_63, wp_iload, wp_aload, wp_istore, wp_astore, wp_iinc, wp_iconst, wp_dup, wp_dup2, wp_pop, wp_iadd, wp_isub, wp_imul, wp_idiv, wp_irem, wp_ineg, wp_iand, wp_ior, wp_ixor, wp_ishl, wp_ishr, wp_getI, wp_putI, wp_getR, wp_goto, wp_goto_w, wq_if_eq, wq_if_ne, wq_if_lt, wq_if_ge, wq_if_gt, wq_if_le, wq_icmp_eq, wq_icmp_ne, wq_icmp_lt, wq_icmp_ge, wq_icmp_gt, wq_icmp_le, wp_max, wp_min, kI_inl, kR_some, kN_inl, kO_some, KT_none, KT_some, List.length_cons, List.length_nil, Nat.reduceAdd, Nat.reduceLT, Nat.reduceLeDiff, Nat.reduceMod, Nat.reduceDiv, true_and, and_true, Int.reduceLE, Int.reduceNeg, Int.reduceLT, Int.cast_ofNat_Int, Nat.zero_le, zI, Int.reduceAdd, Int.reduceSub, Int.reduceMul, not_true_eq_false, not_false_eq_true, false_implies, true_implies, i01_0, i01_1, ite_not, ↓reduceIte, zget_0, zget_1, zget_2, zget_3, zget_4, zget_5, zget_6, zget_7, zget_8, zget_9, zget_10, zset_0, zset_1, zset_2, zset_3, zset_4, zset_5, zset_6, zset_7, zset_8, zset_9, zset_10, show 31 < i by omega, if_true, lp]
  | m + 1, i, s, h0, h1, hs, Q => by
    have kt := (zT_k ht).1
    have hfr := fun Q => c_isFree (d := d) (im := im) (a := a) (b := i) (Q := Q) ht hn
    rw [pg_122_24]
    by_cases c1 : fre (im (t + 1)) (im (t + 3)) (im t 4) a i
    · have ih := l_spare ht hn m (i + 1) (s + 1) (by omega) (by omega) (by omega) Q
      have e1 : cntf (frA (im (t + 1)) (im (t + 3)) (im t 4) a) i s = s + 1 := if_pos (decide_eq_true c1)
      simp (disch := omega) only [wp_ireturn rk_122, pg_122_19, pg_122_44, pg_122_50, cw_1, cw_56, cw_63, wp_iload, wp_aload, wp_istore, wp_astore, wp_iinc, wp_iconst, wp_dup, wp_dup2, wp_pop, wp_iadd, wp_isub, wp_imul, wp_idiv, wp_irem, wp_ineg, wp_iand, wp_ior, wp_ixor, wp_ishl, wp_ishr, wp_getI, wp_putI, wp_getR, wp_goto, wp_goto_w, wq_if_eq, wq_if_ne, wq_if_lt, wq_if_ge, wq_if_gt, wq_if_le, wq_icmp_eq, wq_icmp_ne, wq_icmp_lt, wq_icmp_ge, wq_icmp_gt, wq_icmp_le, wp_max, wp_min, kI_inl, kR_some, kN_inl, kO_some, KT_none, KT_some, List.length_cons, List.length_nil, Nat.reduceAdd, Nat.reduceLT, Nat.reduceLeDiff, Nat.reduceMod, Nat.reduceDiv, true_and, and_true, Int.reduceLE, Int.reduceNeg, Int.reduceLT, Int.cast_ofNat_Int, Nat.zero_le, zI, Int.reduceAdd, Int.reduceSub, Int.reduceMul, not_true_eq_false, not_false_eq_true, false_implies, true_implies, i01_0, i01_1, ite_not, ↓reduceIte, zget_0, zget_1, zget_2, zget_3, zget_4, zget_5, zget_6, zget_7, zget_8, zget_9, zget_10, zset_0, zset_1, zset_2, zset_3, zset_4, zset_5, zset_6, zset_7, zset_8, zset_9, zset_10, kt, hfr, if_pos c1, show ¬ 31 < i by omega, if_false, lp, e1]
      simp only [show ¬ (1 : Int) = 0 by omega, if_false]
      repeat (refine (and_iff_right (by omega)).trans ?_)
      exact ih
    · have ih := l_spare ht hn m (i + 1) s (by omega) (by omega) (by omega) Q
      have e1 : cntf (frA (im (t + 1)) (im (t + 3)) (im t 4) a) i s = s := if_neg (fun q => c1 (of_decide_eq_true q))
      simp (disch := omega) only [wp_ireturn rk_122, pg_122_19, pg_122_44, pg_122_50, cw_1, cw_56, cw_63, wp_iload, wp_aload, wp_istore, wp_astore, wp_iinc, wp_iconst, wp_dup, wp_dup2, wp_pop, wp_iadd, wp_isub, wp_imul, wp_idiv, wp_irem, wp_ineg, wp_iand, wp_ior, wp_ixor, wp_ishl, wp_ishr, wp_getI, wp_putI, wp_getR, wp_goto, wp_goto_w, wq_if_eq, wq_if_ne, wq_if_lt, wq_if_ge, wq_if_gt, wq_if_le, wq_icmp_eq, wq_icmp_ne, wq_icmp_lt, wq_icmp_ge, wq_icmp_gt, wq_icmp_le, wp_max, wp_min, kI_inl, kR_some, kN_inl, kO_some, KT_none, KT_some, List.length_cons, List.length_nil, Nat.reduceAdd, Nat.reduceLT, Nat.reduceLeDiff, Nat.reduceMod, Nat.reduceDiv, true_and, and_true, Int.reduceLE, Int.reduceNeg, Int.reduceLT, Int.cast_ofNat_Int, Nat.zero_le, zI, Int.reduceAdd, Int.reduceSub, Int.reduceMul, not_true_eq_false, not_false_eq_true, false_implies, true_implies, i01_0, i01_1, ite_not, ↓reduceIte, zget_0, zget_1, zget_2, zget_3, zget_4, zget_5, zget_6, zget_7, zget_8, zget_9, zget_10, zset_0, zset_1, zset_2, zset_3, zset_4, zset_5, zset_6, zset_7, zset_8, zset_9, zset_10, kt, hfr, if_neg c1, show ¬ 31 < i by omega, if_false, lp, e1, if_true]
      repeat (refine (and_iff_right (by omega)).trans ?_)
      exact ih
theorem c_spare (h : HH im) (e : nowT (im 1 1) = t) (hn : im t 4 ≤ 20) : CallP (d + 4) 122 [.inr (some 0), .inl a] im Q ↔ Q (some (.inl (if a = -1 ∨ (gt (im (t + 1)) a 0 = 2 ∧ gt (im (t + 1)) a 3 = 1) then lp (cntf (frA (im (t + 1)) (im (t + 3)) (im t 4) a)) 32 0 0 else -2))) im := by
  have ht : zT t := e ▸ nowT_z h.1
  have kt := (zT_k ht).1
  have hnw := fun d Q => c_now (d := d) (im := im) (Q := Q) h.1
  simp only [e] at hnw
  have hl := l_spare (d := d + 1) (im := im) (a := a) ht hn 32 0 0 (by omega) (by omega) (by omega) Q
  simp (disch := omega) only [en_122, wp_ireturn rk_122, pg_122_0, pg_122_19, pg_122_44, pg_122_50, cw_1, cw_56, cw_63, wp_iload, wp_aload, wp_istore, wp_astore, wp_iinc, wp_iconst, wp_dup, wp_dup2, wp_pop, wp_iadd, wp_isub, wp_imul, wp_idiv, wp_irem, wp_ineg, wp_iand, wp_ior, wp_ixor, wp_ishl, wp_ishr, wp_getI, wp_putI, wp_getR, wp_goto, wp_goto_w, wq_if_eq, wq_if_ne, wq_if_lt, wq_if_ge, wq_if_gt, wq_if_le, wq_icmp_eq, wq_icmp_ne, wq_icmp_lt, wq_icmp_ge, wq_icmp_gt, wq_icmp_le, wp_max, wp_min, kI_inl, kR_some, kN_inl, kO_some, KT_none, KT_some, List.length_cons, List.length_nil, Nat.reduceAdd, Nat.reduceLT, Nat.reduceLeDiff, Nat.reduceMod, Nat.reduceDiv, true_and, and_true, Int.reduceLE, Int.reduceNeg, Int.reduceLT, Int.cast_ofNat_Int, Nat.zero_le, zI, Int.reduceAdd, Int.reduceSub, Int.reduceMul, not_true_eq_false, not_false_eq_true, false_implies, true_implies, i01_0, i01_1, ite_not, ↓reduceIte, zget_0, zget_1, zget_2, zget_3, zget_4, zget_5, zget_6, zget_7, zget_8, zget_9, zget_10, zset_0, zset_1, zset_2, zset_3, zset_4, zset_5, zset_6, zset_7, zset_8, zset_9, zset_10, kd_0, kd_1, kt_120, rf_0_0, rf_0_1, rf_0_2, rf_0_3, rf_0_4, rf_0_5, rf_0_6, rf_0_7, kd_131, kd_138, kd_164, kt, hnw, c_isBusOn ht]
  by_cases c1 : a = -1 ∨ (gt (im (t + 1)) a 0 = 2 ∧ gt (im (t + 1)) a 3 = 1)
  · rw [if_pos c1, if_pos c1]
    try simp only [show ¬ (1 : Int) = 0 by omega, if_false, not_false_eq_true, if_true]
    exact hl
  · rw [if_neg c1, if_neg c1]
    try simp only [if_true, not_true_eq_false, if_false]
end FE
