/-! NEEDS: the class's measuring again, windows that are measured alone known -/
section EF
variable {d s t u o : Nat} {im : zM} {Q : Option zV → zM → Prop} {a b v dv kd sl i j k : Int}
/-- the sizes and windows of a bus -/
def TWb (c : Int → Int) (k at' : Int) : Prop := ∀ e : Int, 0 ≤ e → e < 20 → gt c e 1 = at' → gt c e 3 = 1 → (∀ a : Int, 0 ≤ a → a < gt c e 6 → 1 ≤ gt c e (12 + a) ∧ gt c e (12 + a) ≤ 1048576) ∧ (gt c e 0 ≠ 1 → 0 < gt c e (20 + k) → gt c e (20 + k) ≤ 33554432 ∧ 1 ≤ gt c e (22 + k) ∧ gt c e (22 + k) ≤ 1048576)
theorem SBd_gatb {c w : Int → Int} {n at' k : Int} {z : zSS} (h : TWb c k at') : SBd (gatS c w n at' k z) := by
  unfold gatS
  refine lp_keep (P := SBd) ?_ _ _ _ ?_
  · intro i z hz
    unfold gaf
    split
    · rename_i hc
      have hr : 0 ≤ wka w n i ∧ wka w n i < 20 := by
        have := hc.2
        unfold gt at this
        split at this
        · omega
        · omega
      have hh := h _ hr.1 hr.2 hc.1 hc.2
      split
      · unfold apsS
        refine lp_keep' (P := SBd) (N := (gt c (wka w n i) 6).toNat) ?_ _ _ _ (by omega) (by omega) hz
        intro a z h0 h1 hz
        unfold apsf
        split
        · have := hh.1 a h0 (by omega)
          exact SBd_addS hz this (by omega)
        · exact hz
      · split
        · rename_i h1 h2
          have := hh.2 h1 h2
          exact SBd_addS hz this.2 (by omega)
        · exact hz
    · exact hz
  · intro i h0 h1 h2
    have : (clrS z).2.2.2.2.2 = 0 := rfl
    omega
theorem c_needb (ht : zT t) (hb : TB (im (t + 1))) (hw : TWb (im (t + 1)) kd a) (hk : 0 ≤ kd ∧ kd < 2) (hn : im t 4 ≤ 20) : CallP (d + 4) 23 [.inr (some 131), .inr (some t), .inl a, .inl kd] im Q ↔ Q (some (.inl (layS (ordG im t a kd)).1)) (sth im 132 (setB (ordG im t a kd) (layS (ordG im t a kd)).2)) := by
  have hg := SBd_ordS (SBd_gatb (c := im (t + 1)) (w := im (t + 3)) (n := im t 4) (at' := a) (z := gsh im 132) hw)
  have ho := fun (y : zSS) (Q : Option zV → zM → Prop) => c_order (d := d + 2) (im := sth im 132 y) (Q := Q) zSh_132
  have hl := fun (y : zSS) (Q : Option zV → zM → Prop) (h : SBd y) => c_lay (d := d + 2) (im := sth im 132 y) (Q := Q) zSh_132 (by rw [gsh_sth]; exact h)
  have hgt := fun (Q : Option zV → zM → Prop) => c_gather (d := d) (im := im) (Q := Q) (a := a) ht zSh_132 hb hk hn
  simp (disch := first | omega | assumption) only [en_23, wp_ireturn rk_23, pg_23_0, cw_33, cw_37, cw_40, wp_iload, wp_aload, wp_istore, wp_astore, wp_iinc, wp_iconst, wp_dup, wp_dup2, wp_pop, wp_iadd, wp_isub, wp_imul, wp_idiv, wp_irem, wp_ineg, wp_iand, wp_ior, wp_ixor, wp_ishl, wp_ishr, wp_getI, wp_putI, wp_getR, wp_goto, wp_goto_w, wq_if_eq, wq_if_ne, wq_if_lt, wq_if_ge, wq_if_gt, wq_if_le, wq_icmp_eq, wq_icmp_ne, wq_icmp_lt, wq_icmp_ge, wq_icmp_gt, wq_icmp_le, wp_max, wp_min, kI_inl, kR_some, kN_inl, kO_some, KT_none, KT_some, List.length_cons, List.length_nil, Nat.reduceAdd, Nat.reduceLT, Nat.reduceLeDiff, Nat.reduceMod, Nat.reduceDiv, true_and, and_true, Int.reduceLE, Int.reduceNeg, Int.reduceLT, Int.cast_ofNat_Int, Nat.zero_le, zI, Int.reduceAdd, Int.reduceSub, Int.reduceMul, not_true_eq_false, not_false_eq_true, false_implies, true_implies, i01_0, i01_1, ite_not, ↓reduceIte, zget_0, zget_1, zget_2, zget_3, zget_4, zget_5, zget_6, zget_7, zget_8, zget_9, zget_10, zset_0, zset_1, zset_2, zset_3, zset_4, zset_5, zset_6, zset_7, zset_8, zset_9, zset_10, kd_131, kd_132, rf_131_0, hgt, ho, hl, gsh_sth, sth_sth, sth_setB]
  rfl
theorem c_needb2 (ht : zT t) {c w : Int → Int} {n : Int} {z : zSS} (hW : im (t + 3) = w) (hN : im t 4 = n) (hb : TB c) (hw : TWb c kd a) (hk : 0 ≤ kd ∧ kd < 2) (hn : n ≤ 20) : CallP (d + 4) 23 [.inr (some 131), .inr (some t), .inl a, .inl kd] (mt2 im t c z) Q ↔ Q (some (.inl (ndS c w n a kd z).1)) (mt2 im t c (ndS c w n a kd z).2) := by
  have ap := zT_lt ht
  have e3 : mt2 im t c z (t + 3) = w := by rw [mt2_ne ht _ _ (by omega) (by omega), hW]
  have e4 : mt2 im t c z t = im t := mt2_ne ht _ _ (by omega) (by omega)
  rw [c_needb ht (by rw [mt2_c ht]; exact hb) (by rw [mt2_c ht]; exact hw) hk (by rw [e4, hN]; exact hn)]
  unfold ordG
  rw [mt2_c ht, e3, e4, hN, mt2_g, mt2_sth]
  rfl
def MsOb (w : Int → Int) (n k : Int) : Nat → (Int → Int) × zSS → Prop
  | 0, y => TB y.1 ∧ TWb y.1 k (-1)
  | m + 1, y => (TB y.1 ∧ (gt y.1 (wka w n m) 0 = 2 ∧ gt y.1 (wka w n m) 3 = 1 → TWb y.1 k (wka w n m)) ∧ ∀ e, 0 ≤ gt y.1 e 5 + 1 ∧ gt y.1 e 5 ≤ 1048576) ∧ MsOb w n k m (msf w n k (m : Nat) y)
theorem l_measb (ht : zT t) {w : Int → Int} {n : Int} (hW : im (t + 3) = w) (hN : im t 4 = n) (hk : 0 ≤ k ∧ k < 2) (hn : n ≤ 20) : ∀ (m : Nat) (y : (Int → Int) × zSS) (x4 x5 : zV), m ≤ 20 → MsOb w n k m y → ∀ Q, wp none (d + 5) 21 (zpg 21 7) [.inr (some 131), .inr (some t), .inl k, .inl ((m : Int) - 1), x4, x5] [] (mt2 im t y.1 y.2) Q ↔ Q (some (.inl (ndS (msd w n k m y).1 w n (-1) k (msd w n k m y).2).1)) (mt2 im t (msd w n k m y).1 (ndS (msd w n k m y).1 w n (-1) k (msd w n k m y).2).2)
  | 0, y, x4, x5, hm, hok, Q => by
    have k0 := (zT_k ht).1
    rw [pg_21_7]
    simp (disch := first | omega | assumption) only [en_21, wp_ireturn rk_21, pg_21_0, pg_21_84, pg_21_90, cw_22, cw_23, cw_42, cw_49, cw_50, cw_58, cw_139, wp_iload, wp_aload, wp_istore, wp_astore, wp_iinc, wp_iconst, wp_dup, wp_dup2, wp_pop, wp_iadd, wp_isub, wp_imul, wp_idiv, wp_irem, wp_ineg, wp_iand, wp_ior, wp_ixor, wp_ishl, wp_ishr, wp_getI, wp_putI, wp_getR, wp_goto, wp_goto_w, wq_if_eq, wq_if_ne, wq_if_lt, wq_if_ge, wq_if_gt, wq_if_le, wq_icmp_eq, wq_icmp_ne, wq_icmp_lt, wq_icmp_ge, wq_icmp_gt, wq_icmp_le, wp_max, wp_min, kI_inl, kR_some, kN_inl, kO_some, KT_none, KT_some, List.length_cons, List.length_nil, Nat.reduceAdd, Nat.reduceLT, Nat.reduceLeDiff, Nat.reduceMod, Nat.reduceDiv, true_and, and_true, Int.reduceLE, Int.reduceNeg, Int.reduceLT, Int.cast_ofNat_Int, Nat.zero_le, zI, Int.reduceAdd, Int.reduceSub, Int.reduceMul, not_true_eq_false, not_false_eq_true, false_implies, true_implies, i01_0, i01_1, ite_not, ↓reduceIte, zget_0, zget_1, zget_2, zget_3, zget_4, zget_5, zget_6, zget_7, zget_8, zget_9, zget_10, zset_0, zset_1, zset_2, zset_3, zset_4, zset_5, zset_6, zset_7, zset_8, zset_9, zset_10, kd_131, rf_131_0, k0, show ((0 : Nat) : Int) - 1 < 0 by omega, c_needb2 ht hW hN hok.1 hok.2 hk hn, msd]
  | m + 1, y, x4, x5, hm, hok, Q => by
    have k0 := (zT_k ht).1
    have ap := zT_lt ht
    have ih := l_measb ht hW hN hk hn m
    have e1 : ((m + 1 : Nat) : Int) - 1 = m := by omega
    have e2 : (m : Int) + -1 = (m : Int) - 1 := by omega
    have e3 : mt2 im t y.1 y.2 (t + 3) = w := by rw [mt2_ne ht _ _ (by omega) (by omega), hW]
    have e4 : mt2 im t y.1 y.2 t 4 = n := by rw [mt2_ne ht _ _ (by omega) (by omega), hN]
    have l1 := hok.1.2.2 (wka w n m)
    have ok' := hok.2
    have en : (ndS y.1 w n (wka w n m) k y.2).1 = (layS (ordS (gatS y.1 w n (wka w n m) k y.2))).1 := rfl
    rw [pg_21_7, e1]
    by_cases hc : gt y.1 (wka w n m) 0 = 2 ∧ gt y.1 (wka w n m) 3 = 1
    · have htw := hok.1.2.1 hc
      have l0 := layS_le (SBd_ordS (SBd_gatb (c := y.1) (w := w) (n := n) (at' := wka w n m) (z := y.2) htw))
      have hr : 0 ≤ wka w n m ∧ wka w n m < 20 := by
        have := hc.2
        unfold gt at this
        split at this
        · omega
        · omega
      rw [msf, if_pos hc] at ok'
      simp (disch := first | omega | assumption) only [en_21, wp_ireturn rk_21, pg_21_0, pg_21_84, pg_21_90, cw_22, cw_23, cw_42, cw_49, cw_50, cw_58, cw_139, wp_iload, wp_aload, wp_istore, wp_astore, wp_iinc, wp_iconst, wp_dup, wp_dup2, wp_pop, wp_iadd, wp_isub, wp_imul, wp_idiv, wp_irem, wp_ineg, wp_iand, wp_ior, wp_ixor, wp_ishl, wp_ishr, wp_getI, wp_putI, wp_getR, wp_goto, wp_goto_w, wq_if_eq, wq_if_ne, wq_if_lt, wq_if_ge, wq_if_gt, wq_if_le, wq_icmp_eq, wq_icmp_ne, wq_icmp_lt, wq_icmp_ge, wq_icmp_gt, wq_icmp_le, wp_max, wp_min, kI_inl, kR_some, kN_inl, kO_some, KT_none, KT_some, List.length_cons, List.length_nil, Nat.reduceAdd, Nat.reduceLT, Nat.reduceLeDiff, Nat.reduceMod, Nat.reduceDiv, true_and, and_true, Int.reduceLE, Int.reduceNeg, Int.reduceLT, Int.cast_ofNat_Int, Nat.zero_le, zI, Int.reduceAdd, Int.reduceSub, Int.reduceMul, not_true_eq_false, not_false_eq_true, false_implies, true_implies, i01_0, i01_1, ite_not, ↓reduceIte, zget_0, zget_1, zget_2, zget_3, zget_4, zget_5, zget_6, zget_7, zget_8, zget_9, zget_10, zset_0, zset_1, zset_2, zset_3, zset_4, zset_5, zset_6, zset_7, zset_8, zset_9, zset_10, kd_131, kd_132, rf_131_0, k0, e2, show ¬ (m : Int) < 0 by omega, c_walkAt ht, c_isOnBridge ht, mt2_c ht, e3, e4, hc, c_needb2 ht hW hN hok.1.1 htw hk hn, c_get ht, c_set2 ht, c_roundUp, c_gal2, ih, msd, msf, and_self, if_true]
      simp only [show ¬ (1 : Int) = 0 by omega, if_false]
      rw [← en] at l0
      repeat (refine (and_iff_right (by omega)).trans ?_)
      exact ih (_, _) _ _ (by omega) ok' Q
    · rw [msf, if_neg hc] at ok'
      simp (disch := first | omega | assumption) only [en_21, wp_ireturn rk_21, pg_21_0, pg_21_84, pg_21_90, cw_22, cw_23, cw_42, cw_49, cw_50, cw_58, cw_139, wp_iload, wp_aload, wp_istore, wp_astore, wp_iinc, wp_iconst, wp_dup, wp_dup2, wp_pop, wp_iadd, wp_isub, wp_imul, wp_idiv, wp_irem, wp_ineg, wp_iand, wp_ior, wp_ixor, wp_ishl, wp_ishr, wp_getI, wp_putI, wp_getR, wp_goto, wp_goto_w, wq_if_eq, wq_if_ne, wq_if_lt, wq_if_ge, wq_if_gt, wq_if_le, wq_icmp_eq, wq_icmp_ne, wq_icmp_lt, wq_icmp_ge, wq_icmp_gt, wq_icmp_le, wp_max, wp_min, kI_inl, kR_some, kN_inl, kO_some, KT_none, KT_some, List.length_cons, List.length_nil, Nat.reduceAdd, Nat.reduceLT, Nat.reduceLeDiff, Nat.reduceMod, Nat.reduceDiv, true_and, and_true, Int.reduceLE, Int.reduceNeg, Int.reduceLT, Int.cast_ofNat_Int, Nat.zero_le, zI, Int.reduceAdd, Int.reduceSub, Int.reduceMul, not_true_eq_false, not_false_eq_true, false_implies, true_implies, i01_0, i01_1, ite_not, ↓reduceIte, zget_0, zget_1, zget_2, zget_3, zget_4, zget_5, zget_6, zget_7, zget_8, zget_9, zget_10, zset_0, zset_1, zset_2, zset_3, zset_4, zset_5, zset_6, zset_7, zset_8, zset_9, zset_10, kd_131, kd_132, rf_131_0, k0, e2, show ¬ (m : Int) < 0 by omega, c_walkAt ht, c_isOnBridge ht, mt2_c ht, e3, e4, hc, ih, msd, msf, if_false]
      repeat (refine (and_iff_right (by omega)).trans ?_)
      exact Iff.rfl
theorem c_measb (ht : zT t) (hk : 0 ≤ k ∧ k < 2) (hn : 0 ≤ im t 4 ∧ im t 4 ≤ 20) {y : (Int → Int) × zSS} (hy : y = msd (im (t + 3)) (im t 4) k (im t 4).toNat (im (t + 1), gsh im 132)) (hok : MsOb (im (t + 3)) (im t 4) k (im t 4).toNat (im (t + 1), gsh im 132)) : CallP (d + 5) 21 [.inr (some 131), .inr (some t), .inl k] im Q ↔ Q (some (.inl (ndS y.1 (im (t + 3)) (im t 4) (-1) k y.2).1)) (mt2 im t y.1 (ndS y.1 (im (t + 3)) (im t 4) (-1) k y.2).2) := by
  have k0 := (zT_k ht).1
  have hl := l_measb (d := d) ht rfl rfl hk hn.2 (im t 4).toNat (im (t + 1), gsh im 132) (.inr none) (.inr none) (by omega) hok
  have e : (((im t 4).toNat : Nat) : Int) = im t 4 := by omega
  rw [e] at hl
  simp only [mt2_self, ← hy] at hl
  simp (disch := first | omega | assumption) only [en_21, wp_ireturn rk_21, pg_21_0, pg_21_84, pg_21_90, cw_22, cw_23, cw_42, cw_49, cw_50, cw_58, cw_139, wp_iload, wp_aload, wp_istore, wp_astore, wp_iinc, wp_iconst, wp_dup, wp_dup2, wp_pop, wp_iadd, wp_isub, wp_imul, wp_idiv, wp_irem, wp_ineg, wp_iand, wp_ior, wp_ixor, wp_ishl, wp_ishr, wp_getI, wp_putI, wp_getR, wp_goto, wp_goto_w, wq_if_eq, wq_if_ne, wq_if_lt, wq_if_ge, wq_if_gt, wq_if_le, wq_icmp_eq, wq_icmp_ne, wq_icmp_lt, wq_icmp_ge, wq_icmp_gt, wq_icmp_le, wp_max, wp_min, kI_inl, kR_some, kN_inl, kO_some, KT_none, KT_some, List.length_cons, List.length_nil, Nat.reduceAdd, Nat.reduceLT, Nat.reduceLeDiff, Nat.reduceMod, Nat.reduceDiv, true_and, and_true, Int.reduceLE, Int.reduceNeg, Int.reduceLT, Int.cast_ofNat_Int, Nat.zero_le, zI, Int.reduceAdd, Int.reduceSub, Int.reduceMul, not_true_eq_false, not_false_eq_true, false_implies, true_implies, i01_0, i01_1, ite_not, ↓reduceIte, zget_0, zget_1, zget_2, zget_3, zget_4, zget_5, zget_6, zget_7, zget_8, zget_9, zget_10, zset_0, zset_1, zset_2, zset_3, zset_4, zset_5, zset_6, zset_7, zset_8, zset_9, zset_10, k0, hl]
  refine (and_iff_right (by omega)).trans ?_
  exact Iff.rfl
theorem c_hasMb (h : HH im) (hn : 0 ≤ trl im 120 4 ∧ trl im 120 4 ≤ 20) (hok : (a = -1 ∨ gt (trl im 121) a 0 = 2) → 0 ≤ k ∧ k < 2 → MsOb (hmM im 123) (hmM im 120 4) k (hmM im 120 4).toNat (hmM im 121, gsh (hmM im) 132)) : CallP (d + 6) 114 [.inr (some 0), .inl a, .inl k] im Q ↔ if (a = -1 ∨ gt (trl im 121) a 0 = 2) ∧ 0 ≤ k ∧ k < 2 then Q (some (.inl 1)) (hmZ im k) else Q (some (.inl 0)) (trl im) := by
  have hc := fun Q => c_copyOfNow (d := d + 4) (im := im) (Q := Q) h
  by_cases c1 : (a = -1 ∨ gt (trl im 121) a 0 = 2) ∧ 0 ≤ k ∧ k < 2
  · rw [if_pos c1]
    obtain ⟨i', hl⟩ := l_hm (d := d) (x1 := .inl a) (x2 := .inl k) (X := trl im) hn.2 (trl im 120 4).toNat 0 (trl im 121) (by omega) (by omega)
    rw [setc_self] at hl
    have hl' : ∀ Q, wp none (d + 6) 114 (zpg 114 25) [.inr (some 0), .inl a, .inl k, .inr (some 120), .inl 0] [] (trl im) Q ↔ wp none (d + 6) 114 (zpg 114 52) [.inr (some 0), .inl a, .inl k, .inr (some 120), .inl i'] [] (hmM im) Q := hl
    have e1 : hmM im 120 = trl im 120 := setc_ne _ _ (by omega)
    have hm := fun Q => c_measb (d := d) (im := hmM im) (k := k) (Q := Q) zT_120 c1.2 (by rw [e1]; exact hn) rfl (hok c1.1 c1.2)
    simp (disch := omega) only [en_114, wp_zreturn rk_114, pg_114_0, pg_114_20, pg_114_22, pg_114_52, cw_21, cw_50, cw_55, cw_58, cw_136, cw_137, wp_iload, wp_aload, wp_istore, wp_astore, wp_iinc, wp_iconst, wp_dup, wp_dup2, wp_pop, wp_iadd, wp_isub, wp_imul, wp_idiv, wp_irem, wp_ineg, wp_iand, wp_ior, wp_ixor, wp_ishl, wp_ishr, wp_getI, wp_putI, wp_getR, wp_goto, wp_goto_w, wq_if_eq, wq_if_ne, wq_if_lt, wq_if_ge, wq_if_gt, wq_if_le, wq_icmp_eq, wq_icmp_ne, wq_icmp_lt, wq_icmp_ge, wq_icmp_gt, wq_icmp_le, wp_max, wp_min, kI_inl, kR_some, kN_inl, kO_some, KT_none, KT_some, List.length_cons, List.length_nil, Nat.reduceAdd, Nat.reduceLT, Nat.reduceLeDiff, Nat.reduceMod, Nat.reduceDiv, true_and, and_true, Int.reduceLE, Int.reduceNeg, Int.reduceLT, Int.cast_ofNat_Int, Nat.zero_le, zI, Int.reduceAdd, Int.reduceSub, Int.reduceMul, not_true_eq_false, not_false_eq_true, false_implies, true_implies, i01_0, i01_1, ite_not, ↓reduceIte, zget_0, zget_1, zget_2, zget_3, zget_4, zget_5, zget_6, zget_7, zget_8, zget_9, zget_10, zset_0, zset_1, zset_2, zset_3, zset_4, zset_5, zset_6, zset_7, zset_8, zset_9, zset_10, kd_0, kd_1, kt_120, rf_0_0, rf_0_1, rf_0_2, rf_0_3, rf_0_4, rf_0_5, rf_0_6, rf_0_7, kd_131, kd_138, kd_164, hc, c_hasBus zT_120, c_isKind, c1.1, c1.2, and_self, if_true]
    simp only [show ¬ (1 : Int) = 0 by omega, if_false, not_false_eq_true, if_true]
    rw [hl', pg_114_52]
    simp (disch := omega) only [wp_zreturn rk_114, pg_114_20, pg_114_22, pg_114_52, cw_21, cw_50, cw_55, cw_58, cw_136, cw_137, wp_iload, wp_aload, wp_istore, wp_astore, wp_iinc, wp_iconst, wp_dup, wp_dup2, wp_pop, wp_iadd, wp_isub, wp_imul, wp_idiv, wp_irem, wp_ineg, wp_iand, wp_ior, wp_ixor, wp_ishl, wp_ishr, wp_getI, wp_putI, wp_getR, wp_goto, wp_goto_w, wq_if_eq, wq_if_ne, wq_if_lt, wq_if_ge, wq_if_gt, wq_if_le, wq_icmp_eq, wq_icmp_ne, wq_icmp_lt, wq_icmp_ge, wq_icmp_gt, wq_icmp_le, wp_max, wp_min, kI_inl, kR_some, kN_inl, kO_some, KT_none, KT_some, List.length_cons, List.length_nil, Nat.reduceAdd, Nat.reduceLT, Nat.reduceLeDiff, Nat.reduceMod, Nat.reduceDiv, true_and, and_true, Int.reduceLE, Int.reduceNeg, Int.reduceLT, Int.cast_ofNat_Int, Nat.zero_le, zI, Int.reduceAdd, Int.reduceSub, Int.reduceMul, not_true_eq_false, not_false_eq_true, false_implies, true_implies, i01_0, i01_1, ite_not, ↓reduceIte, zget_0, zget_1, zget_2, zget_3, zget_4, zget_5, zget_6, zget_7, zget_8, zget_9, zget_10, zset_0, zset_1, zset_2, zset_3, zset_4, zset_5, zset_6, zset_7, zset_8, zset_9, zset_10, kd_0, kd_1, kt_120, rf_0_0, rf_0_1, rf_0_2, rf_0_3, rf_0_4, rf_0_5, rf_0_6, rf_0_7, kd_131, kd_138, kd_164, hm, true_or, or_true]
    try exact Iff.rfl
  · rw [if_neg c1]
    simp (disch := omega) only [en_114, wp_zreturn rk_114, pg_114_0, pg_114_20, pg_114_22, pg_114_52, cw_21, cw_50, cw_55, cw_58, cw_136, cw_137, wp_iload, wp_aload, wp_istore, wp_astore, wp_iinc, wp_iconst, wp_dup, wp_dup2, wp_pop, wp_iadd, wp_isub, wp_imul, wp_idiv, wp_irem, wp_ineg, wp_iand, wp_ior, wp_ixor, wp_ishl, wp_ishr, wp_getI, wp_putI, wp_getR, wp_goto, wp_goto_w, wq_if_eq, wq_if_ne, wq_if_lt, wq_if_ge, wq_if_gt, wq_if_le, wq_icmp_eq, wq_icmp_ne, wq_icmp_lt, wq_icmp_ge, wq_icmp_gt, wq_icmp_le, wp_max, wp_min, kI_inl, kR_some, kN_inl, kO_some, KT_none, KT_some, List.length_cons, List.length_nil, Nat.reduceAdd, Nat.reduceLT, Nat.reduceLeDiff, Nat.reduceMod, Nat.reduceDiv, true_and, and_true, Int.reduceLE, Int.reduceNeg, Int.reduceLT, Int.cast_ofNat_Int, Nat.zero_le, zI, Int.reduceAdd, Int.reduceSub, Int.reduceMul, not_true_eq_false, not_false_eq_true, false_implies, true_implies, i01_0, i01_1, ite_not, ↓reduceIte, zget_0, zget_1, zget_2, zget_3, zget_4, zget_5, zget_6, zget_7, zget_8, zget_9, zget_10, zset_0, zset_1, zset_2, zset_3, zset_4, zset_5, zset_6, zset_7, zset_8, zset_9, zset_10, kd_0, kd_1, kt_120, rf_0_0, rf_0_1, rf_0_2, rf_0_3, rf_0_4, rf_0_5, rf_0_6, rf_0_7, kd_131, kd_138, kd_164, hc, c_hasBus zT_120, c_isKind]
    by_cases q1 : a = -1 ∨ gt (trl im 121) a 0 = 2
    · rw [if_pos q1, if_neg (fun q => c1 ⟨q1, q⟩)]
      try simp only [true_or, or_true, true_and]
    · rw [if_neg q1]
      try simp only [true_or, or_true, true_and]
theorem c_need' (h : HH im) (hn : 0 ≤ trl im 120 4 ∧ trl im 120 4 ≤ 20) (hok : (a = -1 ∨ gt (trl im 121) a 0 = 2) → 0 ≤ k ∧ k < 2 → MsOb (hmM im 123) (hmM im 120 4) k (hmM im 120 4).toNat (hmM im 121, gsh (hmM im) 132)) (hok2 : (a = -1 ∨ gt (trl im 121) a 0 = 2) → 0 ≤ k ∧ k < 2 → TB (hmY im k).1 ∧ TW (hmY im k).1 k) : CallP (d + 7) 112 [.inr (some 0), .inl a, .inl k] im Q ↔ if (a = -1 ∨ gt (trl im 121) a 0 = 2) ∧ 0 ≤ k ∧ k < 2 then Q (some (.inl (layS (ordG (hmZ im k) 120 a k)).1)) (sth (hmZ im k) 132 (setB (ordG (hmZ im k) 120 a k) (layS (ordG (hmZ im k) 120 a k)).2)) else Q (some (.inl (-2))) (trl im) := by
  have hh := fun Q => c_hasMb (d := d) (im := im) (a := a) (k := k) (Q := Q) h hn hok
  by_cases c1 : (a = -1 ∨ gt (trl im 121) a 0 = 2) ∧ 0 ≤ k ∧ k < 2
  · have hnd := fun Q => c_needOf (d := d + 2) (im := hmZ im k) (a := a) (kd := k) (Q := Q) zT_120 (by rw [hmZ_c]; exact (hok2 c1.1 c1.2).1) (by rw [hmZ_c]; exact (hok2 c1.1 c1.2).2) c1.2 (by rw [hmZ_n]; exact hn.2)
    simp only [if_pos c1] at hh ⊢
    simp (disch := omega) only [en_112, wp_ireturn rk_112, pg_112_0, pg_112_12, cw_23, cw_114, wp_iload, wp_aload, wp_istore, wp_astore, wp_iinc, wp_iconst, wp_dup, wp_dup2, wp_pop, wp_iadd, wp_isub, wp_imul, wp_idiv, wp_irem, wp_ineg, wp_iand, wp_ior, wp_ixor, wp_ishl, wp_ishr, wp_getI, wp_putI, wp_getR, wp_goto, wp_goto_w, wq_if_eq, wq_if_ne, wq_if_lt, wq_if_ge, wq_if_gt, wq_if_le, wq_icmp_eq, wq_icmp_ne, wq_icmp_lt, wq_icmp_ge, wq_icmp_gt, wq_icmp_le, wp_max, wp_min, kI_inl, kR_some, kN_inl, kO_some, KT_none, KT_some, List.length_cons, List.length_nil, Nat.reduceAdd, Nat.reduceLT, Nat.reduceLeDiff, Nat.reduceMod, Nat.reduceDiv, true_and, and_true, Int.reduceLE, Int.reduceNeg, Int.reduceLT, Int.cast_ofNat_Int, Nat.zero_le, zI, Int.reduceAdd, Int.reduceSub, Int.reduceMul, not_true_eq_false, not_false_eq_true, false_implies, true_implies, i01_0, i01_1, ite_not, ↓reduceIte, zget_0, zget_1, zget_2, zget_3, zget_4, zget_5, zget_6, zget_7, zget_8, zget_9, zget_10, zset_0, zset_1, zset_2, zset_3, zset_4, zset_5, zset_6, zset_7, zset_8, zset_9, zset_10, kd_0, kd_1, kt_120, rf_0_0, rf_0_1, rf_0_2, rf_0_3, rf_0_4, rf_0_5, rf_0_6, rf_0_7, kd_131, kd_138, kd_164, hh, hnd]
    try simp only [show ¬ (1 : Int) = 0 by omega, if_false, not_false_eq_true, if_true]
  · simp only [if_neg c1] at hh ⊢
    simp (disch := omega) only [en_112, wp_ireturn rk_112, pg_112_0, pg_112_12, cw_23, cw_114, wp_iload, wp_aload, wp_istore, wp_astore, wp_iinc, wp_iconst, wp_dup, wp_dup2, wp_pop, wp_iadd, wp_isub, wp_imul, wp_idiv, wp_irem, wp_ineg, wp_iand, wp_ior, wp_ixor, wp_ishl, wp_ishr, wp_getI, wp_putI, wp_getR, wp_goto, wp_goto_w, wq_if_eq, wq_if_ne, wq_if_lt, wq_if_ge, wq_if_gt, wq_if_le, wq_icmp_eq, wq_icmp_ne, wq_icmp_lt, wq_icmp_ge, wq_icmp_gt, wq_icmp_le, wp_max, wp_min, kI_inl, kR_some, kN_inl, kO_some, KT_none, KT_some, List.length_cons, List.length_nil, Nat.reduceAdd, Nat.reduceLT, Nat.reduceLeDiff, Nat.reduceMod, Nat.reduceDiv, true_and, and_true, Int.reduceLE, Int.reduceNeg, Int.reduceLT, Int.cast_ofNat_Int, Nat.zero_le, zI, Int.reduceAdd, Int.reduceSub, Int.reduceMul, not_true_eq_false, not_false_eq_true, false_implies, true_implies, i01_0, i01_1, ite_not, ↓reduceIte, zget_0, zget_1, zget_2, zget_3, zget_4, zget_5, zget_6, zget_7, zget_8, zget_9, zget_10, zset_0, zset_1, zset_2, zset_3, zset_4, zset_5, zset_6, zset_7, zset_8, zset_9, zset_10, kd_0, kd_1, kt_120, rf_0_0, rf_0_1, rf_0_2, rf_0_3, rf_0_4, rf_0_5, rf_0_6, rf_0_7, kd_131, kd_138, kd_164, hh]
    try simp only [show ¬ (1 : Int) = 0 by omega, if_false, not_false_eq_true, if_true, not_true_eq_false]
theorem c_align' (h : HH im) (hn : 0 ≤ trl im 120 4 ∧ trl im 120 4 ≤ 20) (hok : (a = -1 ∨ gt (trl im 121) a 0 = 2) → 0 ≤ k ∧ k < 2 → MsOb (hmM im 123) (hmM im 120 4) k (hmM im 120 4).toNat (hmM im 121, gsh (hmM im) 132)) (hok2 : (a = -1 ∨ gt (trl im 121) a 0 = 2) → 0 ≤ k ∧ k < 2 → TB (hmY im k).1) : CallP (d + 7) 113 [.inr (some 0), .inl a, .inl k] im Q ↔ if (a = -1 ∨ gt (trl im 121) a 0 = 2) ∧ 0 ≤ k ∧ k < 2 then Q (some (.inl (galS (gatS (hmZ im k 121) (hmZ im k 123) (hmZ im k 120 4) a k (gsh (hmZ im k) 132))))) (sth (hmZ im k) 132 (gatS (hmZ im k 121) (hmZ im k 123) (hmZ im k 120 4) a k (gsh (hmZ im k) 132))) else Q (some (.inl (-2))) (trl im) := by
  have hh := fun Q => c_hasMb (d := d) (im := im) (a := a) (k := k) (Q := Q) h hn hok
  by_cases c1 : (a = -1 ∨ gt (trl im 121) a 0 = 2) ∧ 0 ≤ k ∧ k < 2
  · have hnd := fun Q => c_alignOf (d := d + 2) (im := hmZ im k) (a := a) (kd := k) (Q := Q) zT_120 (by rw [hmZ_c]; exact hok2 c1.1 c1.2) c1.2 (by rw [hmZ_n]; exact hn.2)
    simp only [if_pos c1] at hh ⊢
    simp (disch := omega) only [en_113, wp_ireturn rk_113, pg_113_0, pg_113_12, cw_24, cw_114, wp_iload, wp_aload, wp_istore, wp_astore, wp_iinc, wp_iconst, wp_dup, wp_dup2, wp_pop, wp_iadd, wp_isub, wp_imul, wp_idiv, wp_irem, wp_ineg, wp_iand, wp_ior, wp_ixor, wp_ishl, wp_ishr, wp_getI, wp_putI, wp_getR, wp_goto, wp_goto_w, wq_if_eq, wq_if_ne, wq_if_lt, wq_if_ge, wq_if_gt, wq_if_le, wq_icmp_eq, wq_icmp_ne, wq_icmp_lt, wq_icmp_ge, wq_icmp_gt, wq_icmp_le, wp_max, wp_min, kI_inl, kR_some, kN_inl, kO_some, KT_none, KT_some, List.length_cons, List.length_nil, Nat.reduceAdd, Nat.reduceLT, Nat.reduceLeDiff, Nat.reduceMod, Nat.reduceDiv, true_and, and_true, Int.reduceLE, Int.reduceNeg, Int.reduceLT, Int.cast_ofNat_Int, Nat.zero_le, zI, Int.reduceAdd, Int.reduceSub, Int.reduceMul, not_true_eq_false, not_false_eq_true, false_implies, true_implies, i01_0, i01_1, ite_not, ↓reduceIte, zget_0, zget_1, zget_2, zget_3, zget_4, zget_5, zget_6, zget_7, zget_8, zget_9, zget_10, zset_0, zset_1, zset_2, zset_3, zset_4, zset_5, zset_6, zset_7, zset_8, zset_9, zset_10, kd_0, kd_1, kt_120, rf_0_0, rf_0_1, rf_0_2, rf_0_3, rf_0_4, rf_0_5, rf_0_6, rf_0_7, kd_131, kd_138, kd_164, hh, hnd]
    try simp only [show ¬ (1 : Int) = 0 by omega, if_false, not_false_eq_true, if_true]
  · simp only [if_neg c1] at hh ⊢
    simp (disch := omega) only [en_113, wp_ireturn rk_113, pg_113_0, pg_113_12, cw_24, cw_114, wp_iload, wp_aload, wp_istore, wp_astore, wp_iinc, wp_iconst, wp_dup, wp_dup2, wp_pop, wp_iadd, wp_isub, wp_imul, wp_idiv, wp_irem, wp_ineg, wp_iand, wp_ior, wp_ixor, wp_ishl, wp_ishr, wp_getI, wp_putI, wp_getR, wp_goto, wp_goto_w, wq_if_eq, wq_if_ne, wq_if_lt, wq_if_ge, wq_if_gt, wq_if_le, wq_icmp_eq, wq_icmp_ne, wq_icmp_lt, wq_icmp_ge, wq_icmp_gt, wq_icmp_le, wp_max, wp_min, kI_inl, kR_some, kN_inl, kO_some, KT_none, KT_some, List.length_cons, List.length_nil, Nat.reduceAdd, Nat.reduceLT, Nat.reduceLeDiff, Nat.reduceMod, Nat.reduceDiv, true_and, and_true, Int.reduceLE, Int.reduceNeg, Int.reduceLT, Int.cast_ofNat_Int, Nat.zero_le, zI, Int.reduceAdd, Int.reduceSub, Int.reduceMul, not_true_eq_false, not_false_eq_true, false_implies, true_implies, i01_0, i01_1, ite_not, ↓reduceIte, zget_0, zget_1, zget_2, zget_3, zget_4, zget_5, zget_6, zget_7, zget_8, zget_9, zget_10, zset_0, zset_1, zset_2, zset_3, zset_4, zset_5, zset_6, zset_7, zset_8, zset_9, zset_10, kd_0, kd_1, kt_120, rf_0_0, rf_0_1, rf_0_2, rf_0_3, rf_0_4, rf_0_5, rf_0_6, rf_0_7, kd_131, kd_138, kd_164, hh]
    try simp only [show ¬ (1 : Int) = 0 by omega, if_false, not_false_eq_true, if_true, not_true_eq_false]
end EF
