/-! THE CLASS'S SHELF: the first that is met, the lowest, the holder, the offences -/
section SM
variable {d s t u o : Nat} {im : zM} {Q : Option zV → zM → Prop} {a b v dv kd sl i j wh un bt : Int}
theorem ff_cases (p : Int → Bool) : ∀ (n : Nat) (i : Int), ff p n i = -1 ∨ (i ≤ ff p n i ∧ ff p n i < i + n ∧ p (ff p n i) = true)
  | 0, i => Or.inl rfl
  | n + 1, i => by
    simp only [ff]
    split
    · rename_i h
      exact Or.inr ⟨Int.le_refl _, by omega, h⟩
    · rcases ff_cases p n (i + 1) with h | ⟨h1, h2, h3⟩
      · exact Or.inl h
      · exact Or.inr ⟨by omega, by omega, h3⟩
def SBx (im : zM) (s : Nat) : Prop := ∀ i : Int, 0 ≤ i → i < 27 → i < im s 5 → (-1 ≤ im (s + 5) i ∧ im (s + 5) i ≤ 1000000000) ∧ (0 ≤ im (s + 4) i ∧ im (s + 4) i ≤ 33554432)
def mtp (bs sz : Int → Int) (wh un bt i : Int) : Bool := decide (i ≠ bt ∧ bs i < wh + un ∧ wh < bs i + sz i)
theorem l_met (hs : zSh s) (hb : SBx im s) {N : Int} (hN : im s 5 = N) (hw : -2147483648 ≤ wh + un ∧ wh + un ≤ 2147483647) : ∀ (n : Nat) (i : Int), 0 ≤ i → i + n = 27 → ∀ Q, wp none d 44 (zpg 44 3) [.inr (some s), .inl wh, .inl un, .inl bt, .inl i] [] im Q ↔ Q (some (.inl (ff (mtp (im (s + 5)) (im (s + 4)) wh un bt) (min N 27 - i).toNat i))) im
  | 0, i, h0, h1, Q => by
    have k0 := (zSh_k hs).1
    have k1 := (zSh_k hs).2.1
    have k2 := (zSh_k hs).2.2.1
    have k3 := (zSh_k hs).2.2.2.1
    have k4 := (zSh_k hs).2.2.2.2.1
    have k5 := (zSh_k hs).2.2.2.2.2
    have r0 := (zSh_r0 _ hs).1
    have r1 := (zSh_r0 _ hs).2.1
    have r2 := (zSh_r0 _ hs).2.2.1
    have r3 := (zSh_r0 _ hs).2.2.2.1
    have r4 := (zSh_r0 _ hs).2.2.2.2
    have e0 : (min N 27 - i).toNat = 0 := by omega
    rw [pg_44_3, e0]
    simp (disch := omega) only [en_44, wp_ireturn rk_44, pg_44_0, pg_44_60, pg_44_66, wp_iload, wp_aload, wp_istore, wp_astore, wp_iinc, wp_iconst, wp_dup, wp_dup2, wp_pop, wp_iadd, wp_isub, wp_imul, wp_idiv, wp_irem, wp_ineg, wp_iand, wp_ior, wp_ixor, wp_ishl, wp_ishr, wp_getI, wp_putI, wp_getR, wp_goto, wp_goto_w, wq_if_eq, wq_if_ne, wq_if_lt, wq_if_ge, wq_if_gt, wq_if_le, wq_icmp_eq, wq_icmp_ne, wq_icmp_lt, wq_icmp_ge, wq_icmp_gt, wq_icmp_le, wp_max, wp_min, kI_inl, kR_some, kN_inl, kO_some, KT_none, KT_some, List.length_cons, List.length_nil, Nat.reduceAdd, Nat.reduceLT, Nat.reduceLeDiff, Nat.reduceMod, Nat.reduceDiv, true_and, and_true, Int.reduceLE, Int.reduceNeg, Int.reduceLT, Int.cast_ofNat_Int, Nat.zero_le, zI, Int.reduceAdd, Int.reduceSub, Int.reduceMul, not_true_eq_false, not_false_eq_true, false_implies, true_implies, i01_0, i01_1, ite_not, ↓reduceIte, zget_0, zget_1, zget_2, zget_3, zget_4, zget_5, zget_6, zget_7, zget_8, zget_9, zget_10, zset_0, zset_1, zset_2, zset_3, zset_4, zset_5, zset_6, zset_7, zset_8, zset_9, zset_10, k0, r0, r1, r2, r3, r4, wp_iaload k1, wp_iaload k2, wp_iaload k3, wp_iaload k4, wp_iaload k5, wp_iastore k1, wp_iastore k2, wp_iastore k3, wp_iastore k4, wp_iastore k5, ff, hN, show 27 ≤ i by omega, if_true]
    clear k0 k1 k2 k3 k4 k5 r0 r1 r2 r3 r4
    grind
  | n + 1, i, h0, h1, Q => by
    have k0 := (zSh_k hs).1
    have k1 := (zSh_k hs).2.1
    have k2 := (zSh_k hs).2.2.1
    have k3 := (zSh_k hs).2.2.2.1
    have k4 := (zSh_k hs).2.2.2.2.1
    have k5 := (zSh_k hs).2.2.2.2.2
    have r0 := (zSh_r0 _ hs).1
    have r1 := (zSh_r0 _ hs).2.1
    have r2 := (zSh_r0 _ hs).2.2.1
    have r3 := (zSh_r0 _ hs).2.2.2.1
    have r4 := (zSh_r0 _ hs).2.2.2.2
    have ih := l_met hs hb hN hw n (i + 1)
    rw [pg_44_3]
    by_cases h : N ≤ i
    · have e0 : (min N 27 - i).toNat = 0 := by omega
      rw [e0]
      simp (disch := omega) only [en_44, wp_ireturn rk_44, pg_44_0, pg_44_60, pg_44_66, wp_iload, wp_aload, wp_istore, wp_astore, wp_iinc, wp_iconst, wp_dup, wp_dup2, wp_pop, wp_iadd, wp_isub, wp_imul, wp_idiv, wp_irem, wp_ineg, wp_iand, wp_ior, wp_ixor, wp_ishl, wp_ishr, wp_getI, wp_putI, wp_getR, wp_goto, wp_goto_w, wq_if_eq, wq_if_ne, wq_if_lt, wq_if_ge, wq_if_gt, wq_if_le, wq_icmp_eq, wq_icmp_ne, wq_icmp_lt, wq_icmp_ge, wq_icmp_gt, wq_icmp_le, wp_max, wp_min, kI_inl, kR_some, kN_inl, kO_some, KT_none, KT_some, List.length_cons, List.length_nil, Nat.reduceAdd, Nat.reduceLT, Nat.reduceLeDiff, Nat.reduceMod, Nat.reduceDiv, true_and, and_true, Int.reduceLE, Int.reduceNeg, Int.reduceLT, Int.cast_ofNat_Int, Nat.zero_le, zI, Int.reduceAdd, Int.reduceSub, Int.reduceMul, not_true_eq_false, not_false_eq_true, false_implies, true_implies, i01_0, i01_1, ite_not, ↓reduceIte, zget_0, zget_1, zget_2, zget_3, zget_4, zget_5, zget_6, zget_7, zget_8, zget_9, zget_10, zset_0, zset_1, zset_2, zset_3, zset_4, zset_5, zset_6, zset_7, zset_8, zset_9, zset_10, k0, r0, r1, r2, r3, r4, wp_iaload k1, wp_iaload k2, wp_iaload k3, wp_iaload k4, wp_iaload k5, wp_iastore k1, wp_iastore k2, wp_iastore k3, wp_iastore k4, wp_iastore k5, ff, hN, h, if_true]
    · have e0 : (min N 27 - i).toNat = (min N 27 - (i + 1)).toNat + 1 := by omega
      have b1 := (hb i h0 (by omega) (by omega)).1
      have b2 := (hb i h0 (by omega) (by omega)).2
      rw [e0]
      simp (disch := omega) only [en_44, wp_ireturn rk_44, pg_44_0, pg_44_60, pg_44_66, wp_iload, wp_aload, wp_istore, wp_astore, wp_iinc, wp_iconst, wp_dup, wp_dup2, wp_pop, wp_iadd, wp_isub, wp_imul, wp_idiv, wp_irem, wp_ineg, wp_iand, wp_ior, wp_ixor, wp_ishl, wp_ishr, wp_getI, wp_putI, wp_getR, wp_goto, wp_goto_w, wq_if_eq, wq_if_ne, wq_if_lt, wq_if_ge, wq_if_gt, wq_if_le, wq_icmp_eq, wq_icmp_ne, wq_icmp_lt, wq_icmp_ge, wq_icmp_gt, wq_icmp_le, wp_max, wp_min, kI_inl, kR_some, kN_inl, kO_some, KT_none, KT_some, List.length_cons, List.length_nil, Nat.reduceAdd, Nat.reduceLT, Nat.reduceLeDiff, Nat.reduceMod, Nat.reduceDiv, true_and, and_true, Int.reduceLE, Int.reduceNeg, Int.reduceLT, Int.cast_ofNat_Int, Nat.zero_le, zI, Int.reduceAdd, Int.reduceSub, Int.reduceMul, not_true_eq_false, not_false_eq_true, false_implies, true_implies, i01_0, i01_1, ite_not, ↓reduceIte, zget_0, zget_1, zget_2, zget_3, zget_4, zget_5, zget_6, zget_7, zget_8, zget_9, zget_10, zset_0, zset_1, zset_2, zset_3, zset_4, zset_5, zset_6, zset_7, zset_8, zset_9, zset_10, k0, r0, r1, r2, r3, r4, wp_iaload k1, wp_iaload k2, wp_iaload k3, wp_iaload k4, wp_iaload k5, wp_iastore k1, wp_iastore k2, wp_iastore k3, wp_iastore k4, wp_iastore k5, ff, mtp, hN, h, if_false, show ¬ 27 ≤ i by omega, ih, decide_eq_true_eq]
      clear ih
      clear k0 k1 k2 k3 k4 k5 r0 r1 r2 r3 r4
      grind (splits := 20)
noncomputable def metS (bs sz : Int → Int) (N wh un bt : Int) : Int := ff (mtp bs sz wh un bt) (min N 27).toNat 0
theorem c_firstMet (hs : zSh s) (hb : SBx im s) (hw : -2147483648 ≤ wh + un ∧ wh + un ≤ 2147483647) : CallP d 44 [.inr (some s), .inl wh, .inl un, .inl bt] im Q ↔ Q (some (.inl (metS (im (s + 5)) (im (s + 4)) (im s 5) wh un bt))) im := by
  have hl := l_met (d := d) (bt := bt) hs hb rfl hw 27 0 (by omega) (by omega)
  simp (disch := omega) only [en_44, wp_ireturn rk_44, pg_44_0, pg_44_60, pg_44_66, wp_iload, wp_aload, wp_istore, wp_astore, wp_iinc, wp_iconst, wp_dup, wp_dup2, wp_pop, wp_iadd, wp_isub, wp_imul, wp_idiv, wp_irem, wp_ineg, wp_iand, wp_ior, wp_ixor, wp_ishl, wp_ishr, wp_getI, wp_putI, wp_getR, wp_goto, wp_goto_w, wq_if_eq, wq_if_ne, wq_if_lt, wq_if_ge, wq_if_gt, wq_if_le, wq_icmp_eq, wq_icmp_ne, wq_icmp_lt, wq_icmp_ge, wq_icmp_gt, wq_icmp_le, wp_max, wp_min, kI_inl, kR_some, kN_inl, kO_some, KT_none, KT_some, List.length_cons, List.length_nil, Nat.reduceAdd, Nat.reduceLT, Nat.reduceLeDiff, Nat.reduceMod, Nat.reduceDiv, true_and, and_true, Int.reduceLE, Int.reduceNeg, Int.reduceLT, Int.cast_ofNat_Int, Nat.zero_le, zI, Int.reduceAdd, Int.reduceSub, Int.reduceMul, not_true_eq_false, not_false_eq_true, false_implies, true_implies, i01_0, i01_1, ite_not, ↓reduceIte, zget_0, zget_1, zget_2, zget_3, zget_4, zget_5, zget_6, zget_7, zget_8, zget_9, zget_10, zset_0, zset_1, zset_2, zset_3, zset_4, zset_5, zset_6, zset_7, zset_8, zset_9, zset_10, hl, metS]
  simp only [Int.sub_zero]
theorem metS_cases (bs sz : Int → Int) (N wh un bt : Int) : metS bs sz N wh un bt = -1 ∨ (0 ≤ metS bs sz N wh un bt ∧ metS bs sz N wh un bt < 27 ∧ metS bs sz N wh un bt < N ∧ bs (metS bs sz N wh un bt) < wh + un ∧ wh < bs (metS bs sz N wh un bt) + sz (metS bs sz N wh un bt)) := by
  rcases ff_cases (mtp bs sz wh un bt) (min N 27).toNat 0 with h | ⟨h1, h2, h3⟩
  · exact Or.inl h
  · refine Or.inr ⟨h1, ?_, ?_, ?_⟩
    · have : metS bs sz N wh un bt = ff (mtp bs sz wh un bt) (min N 27).toNat 0 := rfl
      omega
    · have : metS bs sz N wh un bt = ff (mtp bs sz wh un bt) (min N 27).toNat 0 := rfl
      omega
    · have h4 := of_decide_eq_true h3
      exact ⟨h4.2.1, h4.2.2⟩
noncomputable def lowf (bs sz : Int → Int) (N un st en : Int) : Nat → Int → Int
  | 0, _ => -1
  | n + 1, wh => if en < wh + un then -1 else if metS bs sz N wh un (-1) = -1 then wh else lowf bs sz N un st en n (rup (bs (metS bs sz N wh un (-1)) + sz (metS bs sz N wh un (-1))) st)
theorem l_low (hs : zSh s) (hb : SBx im s) {N st bg en : Int} (hN : im s 5 = N) (hN1 : 0 ≤ N ∧ N ≤ 1000) (hu : 0 ≤ un ∧ un ≤ 33554432) (hst : 1 ≤ st ∧ st ≤ 1048576) : ∀ (n : Nat) (r wh : Int) (x7 : zV), r + n = N + 1 → 0 ≤ r → 0 ≤ wh ∧ wh ≤ 1100000000 → ∀ Q, wp none (d + 1) 43 (zpg 43 10) [.inr (some s), .inl un, .inl st, .inl bg, .inl en, .inl wh, .inl r, x7] [] im Q ↔ Q (some (.inl (lowf (im (s + 5)) (im (s + 4)) N un st en n wh))) im
  | 0, r, wh, x7, h1, hr, hw, Q => by
    have k0 := (zSh_k hs).1
    have k1 := (zSh_k hs).2.1
    have k2 := (zSh_k hs).2.2.1
    have k3 := (zSh_k hs).2.2.2.1
    have k4 := (zSh_k hs).2.2.2.2.1
    have k5 := (zSh_k hs).2.2.2.2.2
    have r0 := (zSh_r0 _ hs).1
    have r1 := (zSh_r0 _ hs).2.1
    have r2 := (zSh_r0 _ hs).2.2.1
    have r3 := (zSh_r0 _ hs).2.2.2.1
    have r4 := (zSh_r0 _ hs).2.2.2.2
    rw [pg_43_10]
    simp (disch := omega) only [en_43, wp_ireturn rk_43, pg_43_0, pg_43_30, pg_43_49, pg_43_76, cw_44, cw_139, wp_iload, wp_aload, wp_istore, wp_astore, wp_iinc, wp_iconst, wp_dup, wp_dup2, wp_pop, wp_iadd, wp_isub, wp_imul, wp_idiv, wp_irem, wp_ineg, wp_iand, wp_ior, wp_ixor, wp_ishl, wp_ishr, wp_getI, wp_putI, wp_getR, wp_goto, wp_goto_w, wq_if_eq, wq_if_ne, wq_if_lt, wq_if_ge, wq_if_gt, wq_if_le, wq_icmp_eq, wq_icmp_ne, wq_icmp_lt, wq_icmp_ge, wq_icmp_gt, wq_icmp_le, wp_max, wp_min, kI_inl, kR_some, kN_inl, kO_some, KT_none, KT_some, List.length_cons, List.length_nil, Nat.reduceAdd, Nat.reduceLT, Nat.reduceLeDiff, Nat.reduceMod, Nat.reduceDiv, true_and, and_true, Int.reduceLE, Int.reduceNeg, Int.reduceLT, Int.cast_ofNat_Int, Nat.zero_le, zI, Int.reduceAdd, Int.reduceSub, Int.reduceMul, not_true_eq_false, not_false_eq_true, false_implies, true_implies, i01_0, i01_1, ite_not, ↓reduceIte, zget_0, zget_1, zget_2, zget_3, zget_4, zget_5, zget_6, zget_7, zget_8, zget_9, zget_10, zset_0, zset_1, zset_2, zset_3, zset_4, zset_5, zset_6, zset_7, zset_8, zset_9, zset_10, k0, r0, r1, r2, r3, r4, wp_iaload k1, wp_iaload k2, wp_iaload k3, wp_iaload k4, wp_iaload k5, wp_iastore k1, wp_iastore k2, wp_iastore k3, wp_iastore k4, wp_iastore k5, lowf, hN, show N < r by omega, if_true]
  | n + 1, r, wh, x7, h1, hr, hw, Q => by
    have k0 := (zSh_k hs).1
    have k1 := (zSh_k hs).2.1
    have k2 := (zSh_k hs).2.2.1
    have k3 := (zSh_k hs).2.2.2.1
    have k4 := (zSh_k hs).2.2.2.2.1
    have k5 := (zSh_k hs).2.2.2.2.2
    have r0 := (zSh_r0 _ hs).1
    have r1 := (zSh_r0 _ hs).2.1
    have r2 := (zSh_r0 _ hs).2.2.1
    have r3 := (zSh_r0 _ hs).2.2.2.1
    have r4 := (zSh_r0 _ hs).2.2.2.2
    have ih := l_low hs hb (N := N) (st := st) (bg := bg) (en := en) hN hN1 hu hst n (r + 1)
    rw [pg_43_10]
    rcases metS_cases (im (s + 5)) (im (s + 4)) N wh un (-1) with hm | ⟨h2, h3, h6, h4, h5⟩
    · simp (disch := omega) only [en_43, wp_ireturn rk_43, pg_43_0, pg_43_30, pg_43_49, pg_43_76, cw_44, cw_139, wp_iload, wp_aload, wp_istore, wp_astore, wp_iinc, wp_iconst, wp_dup, wp_dup2, wp_pop, wp_iadd, wp_isub, wp_imul, wp_idiv, wp_irem, wp_ineg, wp_iand, wp_ior, wp_ixor, wp_ishl, wp_ishr, wp_getI, wp_putI, wp_getR, wp_goto, wp_goto_w, wq_if_eq, wq_if_ne, wq_if_lt, wq_if_ge, wq_if_gt, wq_if_le, wq_icmp_eq, wq_icmp_ne, wq_icmp_lt, wq_icmp_ge, wq_icmp_gt, wq_icmp_le, wp_max, wp_min, kI_inl, kR_some, kN_inl, kO_some, KT_none, KT_some, List.length_cons, List.length_nil, Nat.reduceAdd, Nat.reduceLT, Nat.reduceLeDiff, Nat.reduceMod, Nat.reduceDiv, true_and, and_true, Int.reduceLE, Int.reduceNeg, Int.reduceLT, Int.cast_ofNat_Int, Nat.zero_le, zI, Int.reduceAdd, Int.reduceSub, Int.reduceMul, not_true_eq_false, not_false_eq_true, false_implies, true_implies, i01_0, i01_1, ite_not, ↓reduceIte, zget_0, zget_1, zget_2, zget_3, zget_4, zget_5, zget_6, zget_7, zget_8, zget_9, zget_10, zset_0, zset_1, zset_2, zset_3, zset_4, zset_5, zset_6, zset_7, zset_8, zset_9, zset_10, k0, r0, r1, r2, r3, r4, wp_iaload k1, wp_iaload k2, wp_iaload k3, wp_iaload k4, wp_iaload k5, wp_iastore k1, wp_iastore k2, wp_iastore k3, wp_iastore k4, wp_iastore k5, lowf, hN, show ¬ N < r by omega, if_false, c_firstMet hs hb, hm]
      clear ih
      clear k0 k1 k2 k3 k4 k5 r0 r1 r2 r3 r4
      grind (splits := 20)
    · have b1 := (hb _ h2 h3 (by omega)).1
      have b2 := (hb _ h2 h3 (by omega)).2
      have b3 := rup_le (v := im (s + 5) (metS (im (s + 5)) (im (s + 4)) N wh un (-1)) + im (s + 4) (metS (im (s + 5)) (im (s + 4)) N wh un (-1))) (st := st) (by omega) (by omega)
      simp (disch := omega) only [en_43, wp_ireturn rk_43, pg_43_0, pg_43_30, pg_43_49, pg_43_76, cw_44, cw_139, wp_iload, wp_aload, wp_istore, wp_astore, wp_iinc, wp_iconst, wp_dup, wp_dup2, wp_pop, wp_iadd, wp_isub, wp_imul, wp_idiv, wp_irem, wp_ineg, wp_iand, wp_ior, wp_ixor, wp_ishl, wp_ishr, wp_getI, wp_putI, wp_getR, wp_goto, wp_goto_w, wq_if_eq, wq_if_ne, wq_if_lt, wq_if_ge, wq_if_gt, wq_if_le, wq_icmp_eq, wq_icmp_ne, wq_icmp_lt, wq_icmp_ge, wq_icmp_gt, wq_icmp_le, wp_max, wp_min, kI_inl, kR_some, kN_inl, kO_some, KT_none, KT_some, List.length_cons, List.length_nil, Nat.reduceAdd, Nat.reduceLT, Nat.reduceLeDiff, Nat.reduceMod, Nat.reduceDiv, true_and, and_true, Int.reduceLE, Int.reduceNeg, Int.reduceLT, Int.cast_ofNat_Int, Nat.zero_le, zI, Int.reduceAdd, Int.reduceSub, Int.reduceMul, not_true_eq_false, not_false_eq_true, false_implies, true_implies, i01_0, i01_1, ite_not, ↓reduceIte, zget_0, zget_1, zget_2, zget_3, zget_4, zget_5, zget_6, zget_7, zget_8, zget_9, zget_10, zset_0, zset_1, zset_2, zset_3, zset_4, zset_5, zset_6, zset_7, zset_8, zset_9, zset_10, k0, r0, r1, r2, r3, r4, wp_iaload k1, wp_iaload k2, wp_iaload k3, wp_iaload k4, wp_iaload k5, wp_iastore k1, wp_iastore k2, wp_iastore k3, wp_iastore k4, wp_iastore k5, lowf, hN, show ¬ N < r by omega, if_false, c_firstMet hs hb, c_roundUp, ih, show ¬ metS (im (s + 5)) (im (s + 4)) N wh un (-1) = -1 by omega]
      clear ih
      clear k0 k1 k2 k3 k4 k5 r0 r1 r2 r3 r4
      grind (splits := 20)
noncomputable def lowS (z : zSS) (un st bg en : Int) : Int := lowf z.2.2.2.2.1 z.2.2.2.1 z.2.2.2.2.2 un st en (z.2.2.2.2.2 + 1).toNat (rup bg st)
theorem c_lowest (hs : zSh s) (hb : SBx im s) {st bg en : Int} (hN1 : 0 ≤ im s 5 ∧ im s 5 ≤ 1000) (hu : 0 ≤ un ∧ un ≤ 33554432) (hst : 1 ≤ st ∧ st ≤ 1048576) (hbg : 0 ≤ bg ∧ bg ≤ 1000000000) : CallP (d + 1) 43 [.inr (some s), .inl un, .inl st, .inl bg, .inl en] im Q ↔ Q (some (.inl (lowS (gsh im s) un st bg en))) im := by
  have b3 := rup_le (v := bg) (st := st) (by omega) (by omega)
  have hl := l_low (d := d) hs hb (bg := bg) (en := en) rfl hN1 hu hst (im s 5 + 1).toNat 0 (rup bg st) (x7 := .inr none) (by omega) (by omega) (by omega)
  simp (disch := omega) only [en_43, wp_ireturn rk_43, pg_43_0, pg_43_30, pg_43_49, pg_43_76, cw_44, cw_139, wp_iload, wp_aload, wp_istore, wp_astore, wp_iinc, wp_iconst, wp_dup, wp_dup2, wp_pop, wp_iadd, wp_isub, wp_imul, wp_idiv, wp_irem, wp_ineg, wp_iand, wp_ior, wp_ixor, wp_ishl, wp_ishr, wp_getI, wp_putI, wp_getR, wp_goto, wp_goto_w, wq_if_eq, wq_if_ne, wq_if_lt, wq_if_ge, wq_if_gt, wq_if_le, wq_icmp_eq, wq_icmp_ne, wq_icmp_lt, wq_icmp_ge, wq_icmp_gt, wq_icmp_le, wp_max, wp_min, kI_inl, kR_some, kN_inl, kO_some, KT_none, KT_some, List.length_cons, List.length_nil, Nat.reduceAdd, Nat.reduceLT, Nat.reduceLeDiff, Nat.reduceMod, Nat.reduceDiv, true_and, and_true, Int.reduceLE, Int.reduceNeg, Int.reduceLT, Int.cast_ofNat_Int, Nat.zero_le, zI, Int.reduceAdd, Int.reduceSub, Int.reduceMul, not_true_eq_false, not_false_eq_true, false_implies, true_implies, i01_0, i01_1, ite_not, ↓reduceIte, zget_0, zget_1, zget_2, zget_3, zget_4, zget_5, zget_6, zget_7, zget_8, zget_9, zget_10, zset_0, zset_1, zset_2, zset_3, zset_4, zset_5, zset_6, zset_7, zset_8, zset_9, zset_10, c_roundUp, hl, lowS]
  rfl
def hdf (ap bs sz : Int → Int) (ad : Int) : Nat → Int → Int → Int
  | 0, _, w => w
  | n + 1, i, w => if 0 ≤ bs i ∧ bs i ≤ ad ∧ ad - bs i < sz i then (if ap i = -1 then hdf ap bs sz ad n (i + 1) i else i) else hdf ap bs sz ad n (i + 1) w
theorem l_hold (hs : zSh s) (hb : SBx im s) {N ad : Int} (hN : im s 5 = N) (had : -2147483648 ≤ ad ∧ ad ≤ 2147483647) : ∀ (n : Nat) (i w : Int), 0 ≤ i → i + n = 27 → ∀ Q, wp none d 45 (zpg 45 4) [.inr (some s), .inl ad, .inl w, .inl i] [] im Q ↔ Q (some (.inl (hdf (im (s + 2)) (im (s + 5)) (im (s + 4)) ad (min N 27 - i).toNat i w))) im
  | 0, i, w, h0, h1, Q => by
    have k0 := (zSh_k hs).1
    have k1 := (zSh_k hs).2.1
    have k2 := (zSh_k hs).2.2.1
    have k3 := (zSh_k hs).2.2.2.1
    have k4 := (zSh_k hs).2.2.2.2.1
    have k5 := (zSh_k hs).2.2.2.2.2
    have r0 := (zSh_r0 _ hs).1
    have r1 := (zSh_r0 _ hs).2.1
    have r2 := (zSh_r0 _ hs).2.2.1
    have r3 := (zSh_r0 _ hs).2.2.2.1
    have r4 := (zSh_r0 _ hs).2.2.2.2
    have e0 : (min N 27 - i).toNat = 0 := by omega
    rw [pg_45_4, e0]
    simp (disch := omega) only [en_45, wp_ireturn rk_45, pg_45_0, pg_45_66, pg_45_68, pg_45_74, wp_iload, wp_aload, wp_istore, wp_astore, wp_iinc, wp_iconst, wp_dup, wp_dup2, wp_pop, wp_iadd, wp_isub, wp_imul, wp_idiv, wp_irem, wp_ineg, wp_iand, wp_ior, wp_ixor, wp_ishl, wp_ishr, wp_getI, wp_putI, wp_getR, wp_goto, wp_goto_w, wq_if_eq, wq_if_ne, wq_if_lt, wq_if_ge, wq_if_gt, wq_if_le, wq_icmp_eq, wq_icmp_ne, wq_icmp_lt, wq_icmp_ge, wq_icmp_gt, wq_icmp_le, wp_max, wp_min, kI_inl, kR_some, kN_inl, kO_some, KT_none, KT_some, List.length_cons, List.length_nil, Nat.reduceAdd, Nat.reduceLT, Nat.reduceLeDiff, Nat.reduceMod, Nat.reduceDiv, true_and, and_true, Int.reduceLE, Int.reduceNeg, Int.reduceLT, Int.cast_ofNat_Int, Nat.zero_le, zI, Int.reduceAdd, Int.reduceSub, Int.reduceMul, not_true_eq_false, not_false_eq_true, false_implies, true_implies, i01_0, i01_1, ite_not, ↓reduceIte, zget_0, zget_1, zget_2, zget_3, zget_4, zget_5, zget_6, zget_7, zget_8, zget_9, zget_10, zset_0, zset_1, zset_2, zset_3, zset_4, zset_5, zset_6, zset_7, zset_8, zset_9, zset_10, k0, r0, r1, r2, r3, r4, wp_iaload k1, wp_iaload k2, wp_iaload k3, wp_iaload k4, wp_iaload k5, wp_iastore k1, wp_iastore k2, wp_iastore k3, wp_iastore k4, wp_iastore k5, hdf, hN, show 27 ≤ i by omega, if_true]
    clear k0 k1 k2 k3 k4 k5 r0 r1 r2 r3 r4
    grind
  | n + 1, i, w, h0, h1, Q => by
    have k0 := (zSh_k hs).1
    have k1 := (zSh_k hs).2.1
    have k2 := (zSh_k hs).2.2.1
    have k3 := (zSh_k hs).2.2.2.1
    have k4 := (zSh_k hs).2.2.2.2.1
    have k5 := (zSh_k hs).2.2.2.2.2
    have r0 := (zSh_r0 _ hs).1
    have r1 := (zSh_r0 _ hs).2.1
    have r2 := (zSh_r0 _ hs).2.2.1
    have r3 := (zSh_r0 _ hs).2.2.2.1
    have r4 := (zSh_r0 _ hs).2.2.2.2
    have ih := l_hold hs hb hN had n (i + 1)
    rw [pg_45_4]
    by_cases h : N ≤ i
    · have e0 : (min N 27 - i).toNat = 0 := by omega
      rw [e0]
      simp (disch := omega) only [en_45, wp_ireturn rk_45, pg_45_0, pg_45_66, pg_45_68, pg_45_74, wp_iload, wp_aload, wp_istore, wp_astore, wp_iinc, wp_iconst, wp_dup, wp_dup2, wp_pop, wp_iadd, wp_isub, wp_imul, wp_idiv, wp_irem, wp_ineg, wp_iand, wp_ior, wp_ixor, wp_ishl, wp_ishr, wp_getI, wp_putI, wp_getR, wp_goto, wp_goto_w, wq_if_eq, wq_if_ne, wq_if_lt, wq_if_ge, wq_if_gt, wq_if_le, wq_icmp_eq, wq_icmp_ne, wq_icmp_lt, wq_icmp_ge, wq_icmp_gt, wq_icmp_le, wp_max, wp_min, kI_inl, kR_some, kN_inl, kO_some, KT_none, KT_some, List.length_cons, List.length_nil, Nat.reduceAdd, Nat.reduceLT, Nat.reduceLeDiff, Nat.reduceMod, Nat.reduceDiv, true_and, and_true, Int.reduceLE, Int.reduceNeg, Int.reduceLT, Int.cast_ofNat_Int, Nat.zero_le, zI, Int.reduceAdd, Int.reduceSub, Int.reduceMul, not_true_eq_false, not_false_eq_true, false_implies, true_implies, i01_0, i01_1, ite_not, ↓reduceIte, zget_0, zget_1, zget_2, zget_3, zget_4, zget_5, zget_6, zget_7, zget_8, zget_9, zget_10, zset_0, zset_1, zset_2, zset_3, zset_4, zset_5, zset_6, zset_7, zset_8, zset_9, zset_10, k0, r0, r1, r2, r3, r4, wp_iaload k1, wp_iaload k2, wp_iaload k3, wp_iaload k4, wp_iaload k5, wp_iastore k1, wp_iastore k2, wp_iastore k3, wp_iastore k4, wp_iastore k5, hdf, hN, h, if_true]
    · have e0 : (min N 27 - i).toNat = (min N 27 - (i + 1)).toNat + 1 := by omega
      have b1 := (hb i h0 (by omega) (by omega)).1
      have b2 := (hb i h0 (by omega) (by omega)).2
      rw [e0]
      simp (disch := omega) only [en_45, wp_ireturn rk_45, pg_45_0, pg_45_66, pg_45_68, pg_45_74, wp_iload, wp_aload, wp_istore, wp_astore, wp_iinc, wp_iconst, wp_dup, wp_dup2, wp_pop, wp_iadd, wp_isub, wp_imul, wp_idiv, wp_irem, wp_ineg, wp_iand, wp_ior, wp_ixor, wp_ishl, wp_ishr, wp_getI, wp_putI, wp_getR, wp_goto, wp_goto_w, wq_if_eq, wq_if_ne, wq_if_lt, wq_if_ge, wq_if_gt, wq_if_le, wq_icmp_eq, wq_icmp_ne, wq_icmp_lt, wq_icmp_ge, wq_icmp_gt, wq_icmp_le, wp_max, wp_min, kI_inl, kR_some, kN_inl, kO_some, KT_none, KT_some, List.length_cons, List.length_nil, Nat.reduceAdd, Nat.reduceLT, Nat.reduceLeDiff, Nat.reduceMod, Nat.reduceDiv, true_and, and_true, Int.reduceLE, Int.reduceNeg, Int.reduceLT, Int.cast_ofNat_Int, Nat.zero_le, zI, Int.reduceAdd, Int.reduceSub, Int.reduceMul, not_true_eq_false, not_false_eq_true, false_implies, true_implies, i01_0, i01_1, ite_not, ↓reduceIte, zget_0, zget_1, zget_2, zget_3, zget_4, zget_5, zget_6, zget_7, zget_8, zget_9, zget_10, zset_0, zset_1, zset_2, zset_3, zset_4, zset_5, zset_6, zset_7, zset_8, zset_9, zset_10, k0, r0, r1, r2, r3, r4, wp_iaload k1, wp_iaload k2, wp_iaload k3, wp_iaload k4, wp_iaload k5, wp_iastore k1, wp_iastore k2, wp_iastore k3, wp_iastore k4, wp_iastore k5, hdf, hN, h, if_false, show ¬ 27 ≤ i by omega, ih]
      clear ih
      clear k0 k1 k2 k3 k4 k5 r0 r1 r2 r3 r4
      grind (splits := 20)
def holdS (z : zSS) (ad : Int) : Int := hdf z.2.1 z.2.2.2.2.1 z.2.2.2.1 ad (min z.2.2.2.2.2 27).toNat 0 (-1)
theorem c_holder (hs : zSh s) (hb : SBx im s) {ad : Int} (had : -2147483648 ≤ ad ∧ ad ≤ 2147483647) : CallP d 45 [.inr (some s), .inl ad] im Q ↔ Q (some (.inl (holdS (gsh im s) ad))) im := by
  have hl := l_hold (d := d) hs hb rfl had 27 0 (-1) (by omega) (by omega)
  simp (disch := omega) only [en_45, wp_ireturn rk_45, pg_45_0, pg_45_66, pg_45_68, pg_45_74, wp_iload, wp_aload, wp_istore, wp_astore, wp_iinc, wp_iconst, wp_dup, wp_dup2, wp_pop, wp_iadd, wp_isub, wp_imul, wp_idiv, wp_irem, wp_ineg, wp_iand, wp_ior, wp_ixor, wp_ishl, wp_ishr, wp_getI, wp_putI, wp_getR, wp_goto, wp_goto_w, wq_if_eq, wq_if_ne, wq_if_lt, wq_if_ge, wq_if_gt, wq_if_le, wq_icmp_eq, wq_icmp_ne, wq_icmp_lt, wq_icmp_ge, wq_icmp_gt, wq_icmp_le, wp_max, wp_min, kI_inl, kR_some, kN_inl, kO_some, KT_none, KT_some, List.length_cons, List.length_nil, Nat.reduceAdd, Nat.reduceLT, Nat.reduceLeDiff, Nat.reduceMod, Nat.reduceDiv, true_and, and_true, Int.reduceLE, Int.reduceNeg, Int.reduceLT, Int.cast_ofNat_Int, Nat.zero_le, zI, Int.reduceAdd, Int.reduceSub, Int.reduceMul, not_true_eq_false, not_false_eq_true, false_implies, true_implies, i01_0, i01_1, ite_not, ↓reduceIte, zget_0, zget_1, zget_2, zget_3, zget_4, zget_5, zget_6, zget_7, zget_8, zget_9, zget_10, zset_0, zset_1, zset_2, zset_3, zset_4, zset_5, zset_6, zset_7, zset_8, zset_9, zset_10, hl, holdS]
  simp only [Int.sub_zero]
  rfl
noncomputable def ofsf (bs sz : Int → Int) (N bg en i e : Int) : Int := if bg ≤ bs i ∧ bs i + sz i ≤ en ∧ metS bs sz N (bs i) (sz i) i = -1 then e else e + 1
theorem l_offe (hs : zSh s) (hb : SBx im s) {N bg en : Int} (hN : im s 5 = N) : ∀ (n : Nat) (i e : Int) (x5 : zV), 0 ≤ i → i + n = 27 → 0 ≤ e ∧ e ≤ i → ∀ Q, wp none (d + 1) 46 (zpg 46 5) [.inr (some s), .inl bg, .inl en, .inl e, .inl i, x5] [] im Q ↔ Q (some (.inl (lp (ofsf (im (s + 5)) (im (s + 4)) N bg en) (min N 27 - i).toNat i e))) im
  | 0, i, e, x5, h0, h1, he, Q => by
    have k0 := (zSh_k hs).1
    have k1 := (zSh_k hs).2.1
    have k2 := (zSh_k hs).2.2.1
    have k3 := (zSh_k hs).2.2.2.1
    have k4 := (zSh_k hs).2.2.2.2.1
    have k5 := (zSh_k hs).2.2.2.2.2
    have r0 := (zSh_r0 _ hs).1
    have r1 := (zSh_r0 _ hs).2.1
    have r2 := (zSh_r0 _ hs).2.2.1
    have r3 := (zSh_r0 _ hs).2.2.2.1
    have r4 := (zSh_r0 _ hs).2.2.2.2
    have e0 : (min N 27 - i).toNat = 0 := by omega
    rw [pg_46_5, e0]
    simp (disch := omega) only [en_46, wp_ireturn rk_46, pg_46_0, pg_46_55, pg_46_56, pg_46_87, pg_46_90, pg_46_96, cw_44, wp_iload, wp_aload, wp_istore, wp_astore, wp_iinc, wp_iconst, wp_dup, wp_dup2, wp_pop, wp_iadd, wp_isub, wp_imul, wp_idiv, wp_irem, wp_ineg, wp_iand, wp_ior, wp_ixor, wp_ishl, wp_ishr, wp_getI, wp_putI, wp_getR, wp_goto, wp_goto_w, wq_if_eq, wq_if_ne, wq_if_lt, wq_if_ge, wq_if_gt, wq_if_le, wq_icmp_eq, wq_icmp_ne, wq_icmp_lt, wq_icmp_ge, wq_icmp_gt, wq_icmp_le, wp_max, wp_min, kI_inl, kR_some, kN_inl, kO_some, KT_none, KT_some, List.length_cons, List.length_nil, Nat.reduceAdd, Nat.reduceLT, Nat.reduceLeDiff, Nat.reduceMod, Nat.reduceDiv, true_and, and_true, Int.reduceLE, Int.reduceNeg, Int.reduceLT, Int.cast_ofNat_Int, Nat.zero_le, zI, Int.reduceAdd, Int.reduceSub, Int.reduceMul, not_true_eq_false, not_false_eq_true, false_implies, true_implies, i01_0, i01_1, ite_not, ↓reduceIte, zget_0, zget_1, zget_2, zget_3, zget_4, zget_5, zget_6, zget_7, zget_8, zget_9, zget_10, zset_0, zset_1, zset_2, zset_3, zset_4, zset_5, zset_6, zset_7, zset_8, zset_9, zset_10, k0, r0, r1, r2, r3, r4, wp_iaload k1, wp_iaload k2, wp_iaload k3, wp_iaload k4, wp_iaload k5, wp_iastore k1, wp_iastore k2, wp_iastore k3, wp_iastore k4, wp_iastore k5, lp, hN, show 27 ≤ i by omega, if_true]
    clear k0 k1 k2 k3 k4 k5 r0 r1 r2 r3 r4
    grind
  | n + 1, i, e, x5, h0, h1, he, Q => by
    have k0 := (zSh_k hs).1
    have k1 := (zSh_k hs).2.1
    have k2 := (zSh_k hs).2.2.1
    have k3 := (zSh_k hs).2.2.2.1
    have k4 := (zSh_k hs).2.2.2.2.1
    have k5 := (zSh_k hs).2.2.2.2.2
    have r0 := (zSh_r0 _ hs).1
    have r1 := (zSh_r0 _ hs).2.1
    have r2 := (zSh_r0 _ hs).2.2.1
    have r3 := (zSh_r0 _ hs).2.2.2.1
    have r4 := (zSh_r0 _ hs).2.2.2.2
    have ih := l_offe hs hb (bg := bg) (en := en) hN n (i + 1)
    rw [pg_46_5]
    by_cases h : N ≤ i
    · have e0 : (min N 27 - i).toNat = 0 := by omega
      rw [e0]
      simp (disch := omega) only [en_46, wp_ireturn rk_46, pg_46_0, pg_46_55, pg_46_56, pg_46_87, pg_46_90, pg_46_96, cw_44, wp_iload, wp_aload, wp_istore, wp_astore, wp_iinc, wp_iconst, wp_dup, wp_dup2, wp_pop, wp_iadd, wp_isub, wp_imul, wp_idiv, wp_irem, wp_ineg, wp_iand, wp_ior, wp_ixor, wp_ishl, wp_ishr, wp_getI, wp_putI, wp_getR, wp_goto, wp_goto_w, wq_if_eq, wq_if_ne, wq_if_lt, wq_if_ge, wq_if_gt, wq_if_le, wq_icmp_eq, wq_icmp_ne, wq_icmp_lt, wq_icmp_ge, wq_icmp_gt, wq_icmp_le, wp_max, wp_min, kI_inl, kR_some, kN_inl, kO_some, KT_none, KT_some, List.length_cons, List.length_nil, Nat.reduceAdd, Nat.reduceLT, Nat.reduceLeDiff, Nat.reduceMod, Nat.reduceDiv, true_and, and_true, Int.reduceLE, Int.reduceNeg, Int.reduceLT, Int.cast_ofNat_Int, Nat.zero_le, zI, Int.reduceAdd, Int.reduceSub, Int.reduceMul, not_true_eq_false, not_false_eq_true, false_implies, true_implies, i01_0, i01_1, ite_not, ↓reduceIte, zget_0, zget_1, zget_2, zget_3, zget_4, zget_5, zget_6, zget_7, zget_8, zget_9, zget_10, zset_0, zset_1, zset_2, zset_3, zset_4, zset_5, zset_6, zset_7, zset_8, zset_9, zset_10, k0, r0, r1, r2, r3, r4, wp_iaload k1, wp_iaload k2, wp_iaload k3, wp_iaload k4, wp_iaload k5, wp_iastore k1, wp_iastore k2, wp_iastore k3, wp_iastore k4, wp_iastore k5, lp, hN, h, if_true]
    · have e0 : (min N 27 - i).toNat = (min N 27 - (i + 1)).toNat + 1 := by omega
      have b1 := (hb i h0 (by omega) (by omega)).1
      have b2 := (hb i h0 (by omega) (by omega)).2
      rw [e0]
      simp (disch := omega) only [en_46, wp_ireturn rk_46, pg_46_0, pg_46_55, pg_46_56, pg_46_87, pg_46_90, pg_46_96, cw_44, wp_iload, wp_aload, wp_istore, wp_astore, wp_iinc, wp_iconst, wp_dup, wp_dup2, wp_pop, wp_iadd, wp_isub, wp_imul, wp_idiv, wp_irem, wp_ineg, wp_iand, wp_ior, wp_ixor, wp_ishl, wp_ishr, wp_getI, wp_putI, wp_getR, wp_goto, wp_goto_w, wq_if_eq, wq_if_ne, wq_if_lt, wq_if_ge, wq_if_gt, wq_if_le, wq_icmp_eq, wq_icmp_ne, wq_icmp_lt, wq_icmp_ge, wq_icmp_gt, wq_icmp_le, wp_max, wp_min, kI_inl, kR_some, kN_inl, kO_some, KT_none, KT_some, List.length_cons, List.length_nil, Nat.reduceAdd, Nat.reduceLT, Nat.reduceLeDiff, Nat.reduceMod, Nat.reduceDiv, true_and, and_true, Int.reduceLE, Int.reduceNeg, Int.reduceLT, Int.cast_ofNat_Int, Nat.zero_le, zI, Int.reduceAdd, Int.reduceSub, Int.reduceMul, not_true_eq_false, not_false_eq_true, false_implies, true_implies, i01_0, i01_1, ite_not, ↓reduceIte, zget_0, zget_1, zget_2, zget_3, zget_4, zget_5, zget_6, zget_7, zget_8, zget_9, zget_10, zset_0, zset_1, zset_2, zset_3, zset_4, zset_5, zset_6, zset_7, zset_8, zset_9, zset_10, k0, r0, r1, r2, r3, r4, wp_iaload k1, wp_iaload k2, wp_iaload k3, wp_iaload k4, wp_iaload k5, wp_iastore k1, wp_iastore k2, wp_iastore k3, wp_iastore k4, wp_iastore k5, lp, ofsf, hN, h, if_false, show ¬ 27 ≤ i by omega, ih, c_firstMet hs hb]
      clear ih
      clear k0 k1 k2 k3 k4 k5 r0 r1 r2 r3 r4
      grind (splits := 20)
noncomputable def offeS (z : zSS) (bg en : Int) : Int := lp (ofsf z.2.2.2.2.1 z.2.2.2.1 z.2.2.2.2.2 bg en) (min z.2.2.2.2.2 27).toNat 0 0
theorem c_offences (hs : zSh s) (hb : SBx im s) {bg en : Int} : CallP (d + 1) 46 [.inr (some s), .inl bg, .inl en] im Q ↔ Q (some (.inl (offeS (gsh im s) bg en))) im := by
  have hl := l_offe (d := d) hs hb (bg := bg) (en := en) rfl 27 0 0 (.inr none) (by omega) (by omega) (by omega)
  simp (disch := omega) only [en_46, wp_ireturn rk_46, pg_46_0, pg_46_55, pg_46_56, pg_46_87, pg_46_90, pg_46_96, cw_44, wp_iload, wp_aload, wp_istore, wp_astore, wp_iinc, wp_iconst, wp_dup, wp_dup2, wp_pop, wp_iadd, wp_isub, wp_imul, wp_idiv, wp_irem, wp_ineg, wp_iand, wp_ior, wp_ixor, wp_ishl, wp_ishr, wp_getI, wp_putI, wp_getR, wp_goto, wp_goto_w, wq_if_eq, wq_if_ne, wq_if_lt, wq_if_ge, wq_if_gt, wq_if_le, wq_icmp_eq, wq_icmp_ne, wq_icmp_lt, wq_icmp_ge, wq_icmp_gt, wq_icmp_le, wp_max, wp_min, kI_inl, kR_some, kN_inl, kO_some, KT_none, KT_some, List.length_cons, List.length_nil, Nat.reduceAdd, Nat.reduceLT, Nat.reduceLeDiff, Nat.reduceMod, Nat.reduceDiv, true_and, and_true, Int.reduceLE, Int.reduceNeg, Int.reduceLT, Int.cast_ofNat_Int, Nat.zero_le, zI, Int.reduceAdd, Int.reduceSub, Int.reduceMul, not_true_eq_false, not_false_eq_true, false_implies, true_implies, i01_0, i01_1, ite_not, ↓reduceIte, zget_0, zget_1, zget_2, zget_3, zget_4, zget_5, zget_6, zget_7, zget_8, zget_9, zget_10, zset_0, zset_1, zset_2, zset_3, zset_4, zset_5, zset_6, zset_7, zset_8, zset_9, zset_10, hl, offeS]
  simp only [Int.sub_zero]
  rfl
end SM
