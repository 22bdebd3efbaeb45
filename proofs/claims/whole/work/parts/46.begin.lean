/-! THE CLASS'S PLACER: seating, starting -/
section PB2
variable {d s t u o : Nat} {im : zM} {Q : Option zV → zM → Prop} {a b v dv kd sl i j f : Int}
theorem totS_bd {z : zSS} (h : SG z) : 0 ≤ totS z ∧ totS z ≤ 28311552 := by
  have h2 : ∀ (n : Nat) (i e : Int), 0 ≤ i → i + n ≤ z.2.2.2.2.2 → e ≤ lp (totf z.2.2.2.1) n i e ∧ lp (totf z.2.2.2.1) n i e ≤ e + n * 1048576 := by
    intro n
    induction n with
    | zero => intro i e _ _; simp only [lp]; omega
    | succ n ih =>
      intro i e h0 h1
      have h3 := (h.2.2 i h0 (by omega)).2.2.1
      have := ih (i + 1) (totf z.2.2.2.1 i e) (by omega) (by omega)
      have e : totf z.2.2.2.1 i e = e + z.2.2.2.1 i := rfl
      simp only [lp]
      omega
  have h4 := h.1
  have h5 := h.2.1
  have := h2 (min z.2.2.2.2.2 27).toNat 0 0 (by omega) (by omega)
  unfold totS
  omega
theorem unt_bd {c : Int → Int} (h : TB c) : -3 ≤ unt c dv kd ∧ unt c dv kd ≤ 768 := by
  have hb := h dv
  have h2 : ∀ (n : Nat) (i e : Int), 0 ≤ i → i + n ≤ 3 → e - n ≤ lp (usf c dv kd) n i e ∧ lp (usf c dv kd) n i e ≤ e + n * 256 := by
    intro n
    induction n with
    | zero => intro i e _ _; simp only [lp]; omega
    | succ n ih =>
      intro i e h0 h1
      have h3 := hb.2 i h0 (by omega)
      have := ih (i + 1) (usf c dv kd i e) (by omega) (by omega)
      have e2 : usf c dv kd i e = e + gt c dv (12 + i) ∨ usf c dv kd i e = e := by
        unfold usf
        split
        · exact Or.inl rfl
        · exact Or.inr rfl
      simp only [lp]
      omega
  have := h2 (gt c dv 6).toNat 0 0 (by omega) (by omega)
  unfold unt
  omega
def tkP (w : Int → Int) (n a kd : Int) (P : zPl) : zPl := (P.1, gatS P.1 w n a kd P.2.1, tkM (gatS P.1 w n a kd P.2.1) P.2.2.1, P.2.2.2)
noncomputable def seP (dv : Int) (P : zPl) : zPl := ((stS P.2.2.2.2.1 dv P.1).2, P.2)
noncomputable def seS (w sp : Int → Int) (n dv a most : Int) : Nat → Int → Int → zPl → Int × zPl
  | 0, _, mv, P => (mv, P)
  | m + 1, kd, mv, P => if unt P.1 dv kd = 0 then seS w sp n dv a most m (kd + 1) mv P
    else if unt P.1 dv kd + totS (gatS P.1 w n a kd P.2.1) ≤ lenf P.1 sp a kd then
      (if (flS sp dv a kd (most + 1).toNat 0 (tkP w n a kd P)).1 = 1 then seS w sp n dv a most m (kd + 1) (mv + (stS (flS sp dv a kd (most + 1).toNat 0 (tkP w n a kd P)).2.2.2.2.2.1 dv (flS sp dv a kd (most + 1).toNat 0 (tkP w n a kd P)).2.1).1) (seP dv (flS sp dv a kd (most + 1).toNat 0 (tkP w n a kd P)).2) else (-1, (flS sp dv a kd (most + 1).toNat 0 (tkP w n a kd P)).2))
    else (-1, tkP w n a kd P)
theorem BuOK_keep {c c' sp : Int → Int} (h : BuOK c sp a kd) (hk : gt c' a (20 + kd) = gt c a (20 + kd)) (hk2 : gt c' a (18 + kd) = gt c a (18 + kd)) : BuOK c' sp a kd := by
  have e1 : begf c' a kd = begf c a kd := by unfold begf; rw [hk, hk2]
  have e2 : lenf c' sp a kd = lenf c sp a kd := by unfold lenf; rw [hk]
  unfold BuOK
  rw [e1, e2]
  exact h
theorem l_seat (ht : zT t) {w : Int → Int} {n most : Int} (hW : im (t + 3) = w) (hN : im t 4 = n) (hn : n ≤ 20) (hm : 0 ≤ most ∧ most ≤ 100) : ∀ (m : Nat) (kd mv : Int) (P : zPl) (x7 x8 : zV), 0 ≤ kd → kd + m = 2 → 0 ≤ mv ∧ mv ≤ 27 * kd → TG P.1 → ChB P.2.2.2.2.2 → (∀ k : Int, 0 ≤ k → k < 2 → BuOK P.1 (im (t + 2)) a k) →
    (∀ Q, wp none (d + 6) 11 (zpg 11 6) [.inr (some 138), .inr (some t), .inl dv, .inl a, .inl most, .inl mv, .inl kd, x7, x8] [] (plm im t P) Q ↔ Q (some (.inl (seS w (im (t + 2)) n dv a most m kd mv P).1)) (plm im t (seS w (im (t + 2)) n dv a most m kd mv P).2)) ∧ (-1 ≤ (seS w (im (t + 2)) n dv a most m kd mv P).1 ∧ (seS w (im (t + 2)) n dv a most m kd mv P).1 ≤ 54) ∧ TG (seS w (im (t + 2)) n dv a most m kd mv P).2.1 ∧ ChB (seS w (im (t + 2)) n dv a most m kd mv P).2.2.2.2.2.2 ∧ ∀ e f, f < 15 ∨ 17 < f → gt (seS w (im (t + 2)) n dv a most m kd mv P).2.1 e f = gt P.1 e f
  | 0, kd, mv, P, x7, x8, h0, h1, h2, hc, hch, hb => by
    refine ⟨fun Q => ?_, ⟨?_, ?_⟩, hc, hch, fun _ _ _ => rfl⟩
    · rw [pg_11_6]
      simp (disch := omega) only [wp_ireturn rk_11, pg_11_29, pg_11_61, pg_11_62, pg_11_83, pg_11_85, pg_11_96, pg_11_102, cw_12, cw_13, cw_17, cw_41, cw_60, cw_76, wp_iload, wp_aload, wp_istore, wp_astore, wp_iinc, wp_iconst, wp_dup, wp_dup2, wp_pop, wp_iadd, wp_isub, wp_imul, wp_idiv, wp_irem, wp_ineg, wp_iand, wp_ior, wp_ixor, wp_ishl, wp_ishr, wp_getI, wp_putI, wp_getR, wp_goto, wp_goto_w, wq_if_eq, wq_if_ne, wq_if_lt, wq_if_ge, wq_if_gt, wq_if_le, wq_icmp_eq, wq_icmp_ne, wq_icmp_lt, wq_icmp_ge, wq_icmp_gt, wq_icmp_le, wp_max, wp_min, kI_inl, kR_some, kN_inl, kO_some, KT_none, KT_some, List.length_cons, List.length_nil, Nat.reduceAdd, Nat.reduceLT, Nat.reduceLeDiff, Nat.reduceMod, Nat.reduceDiv, true_and, and_true, Int.reduceLE, Int.reduceNeg, Int.reduceLT, Int.cast_ofNat_Int, Nat.zero_le, zI, Int.reduceAdd, Int.reduceSub, Int.reduceMul, not_true_eq_false, not_false_eq_true, false_implies, true_implies, i01_0, i01_1, ite_not, ↓reduceIte, zget_0, zget_1, zget_2, zget_3, zget_4, zget_5, zget_6, zget_7, zget_8, zget_9, zget_10, zset_0, zset_1, zset_2, zset_3, zset_4, zset_5, zset_6, zset_7, zset_8, zset_9, zset_10, show 2 ≤ kd by omega, if_true, seS]
    · show -1 ≤ mv
      omega
    · show mv ≤ 54
      omega
  | m + 1, kd, mv, P, x7, x8, h0, h1, h2, hc, hch, hb => by
    have kt := (zT_k ht).1
    have hu := fun Q => c_unitsOf (d := d + 4) (im := plm im t P) (dv := dv) (kd := kd) (Q := Q) ht (by rw [plm_c ht]; exact hc.1)
    rw [plm_c ht] at hu
    by_cases c1 : unt P.1 dv kd = 0
    · have ec : seS w (im (t + 2)) n dv a most (m + 1) kd mv P = seS w (im (t + 2)) n dv a most m (kd + 1) mv P := if_pos c1
      rw [ec]
      have ih := fun x7 x8 => l_seat ht hW hN hn hm m (kd + 1) mv P x7 x8 (by omega) (by omega) (by omega) hc hch hb
      refine ⟨fun Q => ?_, (ih (.inr none) (.inr none)).2⟩
      rw [pg_11_6]
      simp (disch := omega) only [wp_ireturn rk_11, pg_11_29, pg_11_61, pg_11_62, pg_11_83, pg_11_85, pg_11_96, pg_11_102, cw_12, cw_13, cw_17, cw_41, cw_60, cw_76, wp_iload, wp_aload, wp_istore, wp_astore, wp_iinc, wp_iconst, wp_dup, wp_dup2, wp_pop, wp_iadd, wp_isub, wp_imul, wp_idiv, wp_irem, wp_ineg, wp_iand, wp_ior, wp_ixor, wp_ishl, wp_ishr, wp_getI, wp_putI, wp_getR, wp_goto, wp_goto_w, wq_if_eq, wq_if_ne, wq_if_lt, wq_if_ge, wq_if_gt, wq_if_le, wq_icmp_eq, wq_icmp_ne, wq_icmp_lt, wq_icmp_ge, wq_icmp_gt, wq_icmp_le, wp_max, wp_min, kI_inl, kR_some, kN_inl, kO_some, KT_none, KT_some, List.length_cons, List.length_nil, Nat.reduceAdd, Nat.reduceLT, Nat.reduceLeDiff, Nat.reduceMod, Nat.reduceDiv, true_and, and_true, Int.reduceLE, Int.reduceNeg, Int.reduceLT, Int.cast_ofNat_Int, Nat.zero_le, zI, Int.reduceAdd, Int.reduceSub, Int.reduceMul, not_true_eq_false, not_false_eq_true, false_implies, true_implies, i01_0, i01_1, ite_not, ↓reduceIte, zget_0, zget_1, zget_2, zget_3, zget_4, zget_5, zget_6, zget_7, zget_8, zget_9, zget_10, zset_0, zset_1, zset_2, zset_3, zset_4, zset_5, zset_6, zset_7, zset_8, zset_9, zset_10, kt, show ¬ 2 ≤ kd by omega, if_false, hu, c1, if_true]
      try simp only [not_true_eq_false, if_false]
      repeat (refine (and_iff_right (by omega)).trans ?_)
      exact (ih _ _).1 Q
    · have hbd := unt_bd (dv := dv) (kd := kd) hc.1
      have hk : 0 ≤ kd ∧ kd < 2 := by omega
      have hB : SG (gatS P.1 w n a kd P.2.1) := SG_gat hc hk
      have hM := tkM_good (B := gatS P.1 w n a kd P.2.1) (M := P.2.2.1) hB
      have htb := totS_bd hB
      have hbk := hb kd hk.1 hk.2
      have htk := fun Q => c_takeBus (d := d + 1) (im := im) (P := P) (a := a) (kd := kd) (Q := Q) ht hc.1 hk (by omega)
      rw [hW, hN] at htk
      have hto := fun Q => c_total (d := d + 4) (im := plm im t (tkP w n a kd P)) (Q := Q) zSh_139 (by
        rw [plm_n1]
        intro i q0 q1 q2
        have q3 := (hB.2.2 i q0 q2).2.2.1
        have e : plm im t (tkP w n a kd P) 143 = (gatS P.1 w n a kd P.2.1).2.2.2.1 := congrArg (fun z : zSS => z.2.2.2.1) (plm_g1 (im := im) (t := t) (P := tkP w n a kd P))
        rw [e]
        omega)
      rw [plm_g1] at hto
      have et : (tkP w n a kd P).2.1 = gatS P.1 w n a kd P.2.1 := rfl
      rw [et] at hto
      have htk' : ∀ Q, CallP (d + 5) 12 [.inr (some 138), .inr (some t), .inl a, .inl kd] (plm im t P) Q ↔ Q none (plm im t (tkP w n a kd P)) := htk
      have hle := fun Q => c_length (d := d + 4) (im := plm im t (tkP w n a kd P)) (dv := a) (f := kd) (Q := Q) ht hk
      rw [plm_c ht, plm_s ht] at hle
      have et1 : (tkP w n a kd P).1 = P.1 := rfl
      rw [et1] at hle
      by_cases c2 : unt P.1 dv kd + totS (gatS P.1 w n a kd P.2.1) ≤ lenf P.1 (im (t + 2)) a kd
      · obtain ⟨f1, f2, f3, f4⟩ := c_findRow (d := d) (im := im) (t := t) (dv := dv) (a := a) (kd := kd) (Q := fun _ _ => True) (P := tkP w n a kd P) ht hk hm hc hB hM.1 hM.2 hch hbk rfl
        have f1 := fun Q => (c_findRow (d := d) (im := im) (t := t) (dv := dv) (a := a) (kd := kd) (Q := Q) (P := tkP w n a kd P) ht hk hm hc hB hM.1 hM.2 hch hbk rfl).1
        by_cases c3 : (flS (im (t + 2)) dv a kd (most + 1).toNat 0 (tkP w n a kd P)).1 = 1
        · have ec : seS w (im (t + 2)) n dv a most (m + 1) kd mv P = seS w (im (t + 2)) n dv a most m (kd + 1) (mv + (stS (flS (im (t + 2)) dv a kd (most + 1).toNat 0 (tkP w n a kd P)).2.2.2.2.2.1 dv (flS (im (t + 2)) dv a kd (most + 1).toNat 0 (tkP w n a kd P)).2.1).1) (seP dv (flS (im (t + 2)) dv a kd (most + 1).toNat 0 (tkP w n a kd P)).2) := by
            simp only [seS, c1, c2, c3, if_true, if_false]
          rw [ec]
          have hL := f3 c3
          have hse := fun Q => c_settle (d := d + 4) (im := im) (dv := dv) (Q := Q) ht hL.2.1
          generalize flS (im (t + 2)) dv a kd (most + 1).toNat 0 (tkP w n a kd P) = r at *
          have hsb := stS_bd (dv := dv) (L := r.2.2.2.2.2.1) (c := r.2.1) hL.2.1.2.1
          have hr1 : r.2.1 = P.1 := f2.1
          have hc' : TG (seP dv r.2).1 := TG_st (by rw [hr1]; exact hc) hL.2.1 hL.2.2
          have hb' : ∀ k : Int, 0 ≤ k → k < 2 → BuOK (seP dv r.2).1 (im (t + 2)) a k := fun k q0 q1 => BuOK_keep (c := P.1) (hb k q0 q1) (by
            rw [← hr1]
            exact stf_keep hL.2.1 hL.2.2 _ (by omega)) (by
            rw [← hr1]
            exact stf_keep hL.2.1 hL.2.2 _ (by omega))
          have ih := fun x7 x8 => l_seat ht hW hN hn hm m (kd + 1) (mv + (stS r.2.2.2.2.2.1 dv r.2.1).1) (seP dv r.2) x7 x8 (by omega) (by omega) (by omega) hc' f2.2.2.2 hb'
          have ihk := (ih (.inr none) (.inr none)).2
          refine ⟨fun Q => ?_, ihk.1, ihk.2.1, ihk.2.2.1, fun e f hf => (ihk.2.2.2 e f hf).trans ((stf_keep hL.2.1 hL.2.2 _ hf).trans (by rw [hr1]))⟩
          rw [pg_11_6]
          simp (disch := omega) only [wp_ireturn rk_11, pg_11_29, pg_11_61, pg_11_62, pg_11_83, pg_11_85, pg_11_96, pg_11_102, cw_12, cw_13, cw_17, cw_41, cw_60, cw_76, wp_iload, wp_aload, wp_istore, wp_astore, wp_iinc, wp_iconst, wp_dup, wp_dup2, wp_pop, wp_iadd, wp_isub, wp_imul, wp_idiv, wp_irem, wp_ineg, wp_iand, wp_ior, wp_ixor, wp_ishl, wp_ishr, wp_getI, wp_putI, wp_getR, wp_goto, wp_goto_w, wq_if_eq, wq_if_ne, wq_if_lt, wq_if_ge, wq_if_gt, wq_if_le, wq_icmp_eq, wq_icmp_ne, wq_icmp_lt, wq_icmp_ge, wq_icmp_gt, wq_icmp_le, wp_max, wp_min, kI_inl, kR_some, kN_inl, kO_some, KT_none, KT_some, List.length_cons, List.length_nil, Nat.reduceAdd, Nat.reduceLT, Nat.reduceLeDiff, Nat.reduceMod, Nat.reduceDiv, true_and, and_true, Int.reduceLE, Int.reduceNeg, Int.reduceLT, Int.cast_ofNat_Int, Nat.zero_le, zI, Int.reduceAdd, Int.reduceSub, Int.reduceMul, not_true_eq_false, not_false_eq_true, false_implies, true_implies, i01_0, i01_1, ite_not, ↓reduceIte, zget_0, zget_1, zget_2, zget_3, zget_4, zget_5, zget_6, zget_7, zget_8, zget_9, zget_10, zset_0, zset_1, zset_2, zset_3, zset_4, zset_5, zset_6, zset_7, zset_8, zset_9, zset_10, kd_138, rf_138_0, rf_138_1, rf_138_2, rf_138_3, rf_138_4, kp_139, kp_145, kp_151, kp_157, rp_141, rp_158, rp_159, rp_161, rp_162, wp_iaload kp_141, wp_iaload kp_158, wp_iaload kp_159, wp_iaload kp_161, wp_iaload kp_162, wp_iastore kp_162, wp_iaload kd_163, wp_iastore kd_163, kt, show ¬ 2 ≤ kd by omega, if_false, hu, c1, htk', hto, hle, show ¬ lenf P.1 (im (t + 2)) a kd < unt P.1 dv kd + totS (gatS P.1 w n a kd P.2.1) by omega, f1, c3, hse]
          simp only [not_false_eq_true, if_true, show ¬ (1 : Int) = 0 by omega, if_false]
          repeat (refine (and_iff_right (by omega)).trans ?_)
          exact (ih _ _).1 Q
        · have c4 : (flS (im (t + 2)) dv a kd (most + 1).toNat 0 (tkP w n a kd P)).1 = 0 := by omega
          have ec : seS w (im (t + 2)) n dv a most (m + 1) kd mv P = (-1, (flS (im (t + 2)) dv a kd (most + 1).toNat 0 (tkP w n a kd P)).2) := by
            simp only [seS, c1, c2, c3, if_true, if_false]
          rw [ec]
          refine ⟨fun Q => ?_, ⟨by show (-1 : Int) ≤ -1; omega, by show (-1 : Int) ≤ 54; omega⟩, by rw [f2.1]; exact hc, f2.2.2.2, fun e f hf => by rw [f2.1]; rfl⟩
          rw [pg_11_6]
          simp (disch := omega) only [wp_ireturn rk_11, pg_11_29, pg_11_61, pg_11_62, pg_11_83, pg_11_85, pg_11_96, pg_11_102, cw_12, cw_13, cw_17, cw_41, cw_60, cw_76, wp_iload, wp_aload, wp_istore, wp_astore, wp_iinc, wp_iconst, wp_dup, wp_dup2, wp_pop, wp_iadd, wp_isub, wp_imul, wp_idiv, wp_irem, wp_ineg, wp_iand, wp_ior, wp_ixor, wp_ishl, wp_ishr, wp_getI, wp_putI, wp_getR, wp_goto, wp_goto_w, wq_if_eq, wq_if_ne, wq_if_lt, wq_if_ge, wq_if_gt, wq_if_le, wq_icmp_eq, wq_icmp_ne, wq_icmp_lt, wq_icmp_ge, wq_icmp_gt, wq_icmp_le, wp_max, wp_min, kI_inl, kR_some, kN_inl, kO_some, KT_none, KT_some, List.length_cons, List.length_nil, Nat.reduceAdd, Nat.reduceLT, Nat.reduceLeDiff, Nat.reduceMod, Nat.reduceDiv, true_and, and_true, Int.reduceLE, Int.reduceNeg, Int.reduceLT, Int.cast_ofNat_Int, Nat.zero_le, zI, Int.reduceAdd, Int.reduceSub, Int.reduceMul, not_true_eq_false, not_false_eq_true, false_implies, true_implies, i01_0, i01_1, ite_not, ↓reduceIte, zget_0, zget_1, zget_2, zget_3, zget_4, zget_5, zget_6, zget_7, zget_8, zget_9, zget_10, zset_0, zset_1, zset_2, zset_3, zset_4, zset_5, zset_6, zset_7, zset_8, zset_9, zset_10, kd_138, rf_138_0, rf_138_1, rf_138_2, rf_138_3, rf_138_4, kp_139, kp_145, kp_151, kp_157, rp_141, rp_158, rp_159, rp_161, rp_162, wp_iaload kp_141, wp_iaload kp_158, wp_iaload kp_159, wp_iaload kp_161, wp_iaload kp_162, wp_iastore kp_162, wp_iaload kd_163, wp_iastore kd_163, kt, show ¬ 2 ≤ kd by omega, if_false, hu, c1, htk', hto, hle, show ¬ lenf P.1 (im (t + 2)) a kd < unt P.1 dv kd + totS (gatS P.1 w n a kd P.2.1) by omega, f1, c4]
          try simp only [not_false_eq_true, if_true, show ¬ (1 : Int) = 0 by omega, if_false, not_true_eq_false]
          repeat (refine (and_iff_right (by omega)).trans ?_)
          exact Iff.rfl
      · have ec : seS w (im (t + 2)) n dv a most (m + 1) kd mv P = (-1, tkP w n a kd P) := by
          simp only [seS, c1, c2, if_false]
        rw [ec]
        refine ⟨fun Q => ?_, ⟨by show (-1 : Int) ≤ -1; omega, by show (-1 : Int) ≤ 54; omega⟩, hc, hch, fun _ _ _ => rfl⟩
        rw [pg_11_6]
        simp (disch := omega) only [wp_ireturn rk_11, pg_11_29, pg_11_61, pg_11_62, pg_11_83, pg_11_85, pg_11_96, pg_11_102, cw_12, cw_13, cw_17, cw_41, cw_60, cw_76, wp_iload, wp_aload, wp_istore, wp_astore, wp_iinc, wp_iconst, wp_dup, wp_dup2, wp_pop, wp_iadd, wp_isub, wp_imul, wp_idiv, wp_irem, wp_ineg, wp_iand, wp_ior, wp_ixor, wp_ishl, wp_ishr, wp_getI, wp_putI, wp_getR, wp_goto, wp_goto_w, wq_if_eq, wq_if_ne, wq_if_lt, wq_if_ge, wq_if_gt, wq_if_le, wq_icmp_eq, wq_icmp_ne, wq_icmp_lt, wq_icmp_ge, wq_icmp_gt, wq_icmp_le, wp_max, wp_min, kI_inl, kR_some, kN_inl, kO_some, KT_none, KT_some, List.length_cons, List.length_nil, Nat.reduceAdd, Nat.reduceLT, Nat.reduceLeDiff, Nat.reduceMod, Nat.reduceDiv, true_and, and_true, Int.reduceLE, Int.reduceNeg, Int.reduceLT, Int.cast_ofNat_Int, Nat.zero_le, zI, Int.reduceAdd, Int.reduceSub, Int.reduceMul, not_true_eq_false, not_false_eq_true, false_implies, true_implies, i01_0, i01_1, ite_not, ↓reduceIte, zget_0, zget_1, zget_2, zget_3, zget_4, zget_5, zget_6, zget_7, zget_8, zget_9, zget_10, zset_0, zset_1, zset_2, zset_3, zset_4, zset_5, zset_6, zset_7, zset_8, zset_9, zset_10, kd_138, rf_138_0, rf_138_1, rf_138_2, rf_138_3, rf_138_4, kp_139, kp_145, kp_151, kp_157, rp_141, rp_158, rp_159, rp_161, rp_162, wp_iaload kp_141, wp_iaload kp_158, wp_iaload kp_159, wp_iaload kp_161, wp_iaload kp_162, wp_iastore kp_162, wp_iaload kd_163, wp_iastore kd_163, kt, show ¬ 2 ≤ kd by omega, if_false, hu, c1, htk', hto, hle, show lenf P.1 (im (t + 2)) a kd < unt P.1 dv kd + totS (gatS P.1 w n a kd P.2.1) by omega, if_true]
        try simp only [not_false_eq_true, if_true, show ¬ (1 : Int) = 0 by omega, if_false, not_true_eq_false]
        repeat (refine (and_iff_right (by omega)).trans ?_)
        exact Iff.rfl
theorem c_seat (ht : zT t) {P : zPl} {most : Int} (hn : im t 4 ≤ 20) (hm : 0 ≤ most ∧ most ≤ 100) (hc : TG P.1) (hch : ChB P.2.2.2.2.2) (hb : ∀ k : Int, 0 ≤ k → k < 2 → BuOK P.1 (im (t + 2)) a k) {r : Int × zPl} (hr : r = seS (im (t + 3)) (im (t + 2)) (im t 4) dv a most 2 0 0 P) : (CallP (d + 6) 11 [.inr (some 138), .inr (some t), .inl dv, .inl a, .inl most] (plm im t P) Q ↔ Q (some (.inl r.1)) (plm im t r.2)) ∧ (-1 ≤ r.1 ∧ r.1 ≤ 54) ∧ TG r.2.1 ∧ ChB r.2.2.2.2.2.2 ∧ ∀ e f, f < 15 ∨ 17 < f → gt r.2.1 e f = gt P.1 e f := by
  have hl := l_seat (d := d) (im := im) (dv := dv) (a := a) ht rfl rfl hn hm 2 0 0 P (.inr none) (.inr none) (by omega) (by omega) (by omega) hc hch hb
  rw [← hr] at hl
  refine ⟨?_, hl.2⟩
  have hq := hl.1 Q
  simp (disch := omega) only [en_11, pg_11_0, wp_iload, wp_aload, wp_istore, wp_astore, wp_iinc, wp_iconst, wp_dup, wp_dup2, wp_pop, wp_iadd, wp_isub, wp_imul, wp_idiv, wp_irem, wp_ineg, wp_iand, wp_ior, wp_ixor, wp_ishl, wp_ishr, wp_getI, wp_putI, wp_getR, wp_goto, wp_goto_w, wq_if_eq, wq_if_ne, wq_if_lt, wq_if_ge, wq_if_gt, wq_if_le, wq_icmp_eq, wq_icmp_ne, wq_icmp_lt, wq_icmp_ge, wq_icmp_gt, wq_icmp_le, wp_max, wp_min, kI_inl, kR_some, kN_inl, kO_some, KT_none, KT_some, List.length_cons, List.length_nil, Nat.reduceAdd, Nat.reduceLT, Nat.reduceLeDiff, Nat.reduceMod, Nat.reduceDiv, true_and, and_true, Int.reduceLE, Int.reduceNeg, Int.reduceLT, Int.cast_ofNat_Int, Nat.zero_le, zI, Int.reduceAdd, Int.reduceSub, Int.reduceMul, not_true_eq_false, not_false_eq_true, false_implies, true_implies, i01_0, i01_1, ite_not, ↓reduceIte, zget_0, zget_1, zget_2, zget_3, zget_4, zget_5, zget_6, zget_7, zget_8, zget_9, zget_10, zset_0, zset_1, zset_2, zset_3, zset_4, zset_5, zset_6, zset_7, zset_8, zset_9, zset_10]
  exact hq
noncomputable def owS (w sp : Int → Int) (n dv a kd : Int) (P : zPl) : Int × zPl :=
  if rup (gt P.1 dv 5) 16 = 0 then (1, P)
  else (if lowS (gatS P.1 w n a kd P.2.1) (rup (gt P.1 dv 5) 16) 16 (begf P.1 a kd) (begf P.1 a kd + lenf P.1 sp a kd) = -1 then 0 else 1, (stc (stc P.1 dv (18 + kd) (lowS (gatS P.1 w n a kd P.2.1) (rup (gt P.1 dv 5) 16) 16 (begf P.1 a kd) (begf P.1 a kd + lenf P.1 sp a kd))) dv (20 + kd) (rup (gt P.1 dv 5) 16), gatS P.1 w n a kd P.2.1, P.2.2))
theorem ite_01 {p : Prop} [Decidable p] : (if p then (0 : Int) else 1) = 0 ∨ (if p then (0 : Int) else 1) = 1 := by
  split
  · exact Or.inl rfl
  · exact Or.inr rfl
theorem TG_win {c : Int → Int} {x y : Int} (hc : TG c) (hk : 0 ≤ kd ∧ kd < 2) (hx : -1 ≤ x ∧ x ≤ 1048576) (hy : 0 ≤ y ∧ y ≤ 1048576) : TG (stc (stc c dv (18 + kd) x) dv (20 + kd) y) := by
  refine ⟨fun e => ⟨?_, fun a h0 h1 => ?_⟩, fun e h0 h1 => ⟨fun a h2 h3 => ?_, fun k h2 h3 => ?_⟩⟩
  · rw [gt_stc, if_neg (by omega), gt_stc, if_neg (by omega)]
    exact (hc.1 e).1
  · rw [gt_stc, if_neg (by omega), gt_stc, if_neg (by omega)]
    exact (hc.1 e).2 a h0 h1
  · rw [gt_stc, if_neg (by omega), gt_stc, if_neg (by omega)] at h3
    have := (hc.2 e h0 h1).1 a h2 h3
    have h6 := (hc.1 e).1
    rw [gt_stc, if_neg (by omega), gt_stc, if_neg (by omega), gt_stc, if_neg (by omega), gt_stc, if_neg (by omega)]
    exact this
  · have := (hc.2 e h0 h1).2 k h2 h3
    rw [gt_stc, gt_stc, if_neg (show ¬ (e = dv ∧ 20 + k = 18 + kd ∧ 0 ≤ dv ∧ dv < 20 ∧ 0 ≤ 18 + kd ∧ 18 + kd < 24) by omega), gt_stc, if_neg (show ¬ (e = dv ∧ 18 + k = 20 + kd ∧ 0 ≤ dv ∧ dv < 20 ∧ 0 ≤ 20 + kd ∧ 20 + kd < 24) by omega), gt_stc]
    constructor
    · split
      · exact hy
      · exact this.1
    · split
      · exact hx
      · exact this.2
theorem c_openWindow (ht : zT t) {P : zPl} (hn : im t 4 ≤ 20) (hk : 0 ≤ kd ∧ kd < 2) (hc : TG P.1) (hu : 0 ≤ gt P.1 dv 5 ∧ gt P.1 dv 5 ≤ 1000) (hb : BuOK P.1 (im (t + 2)) a kd) {r : Int × zPl} (hr : r = owS (im (t + 3)) (im (t + 2)) (im t 4) dv a kd P) : (CallP (d + 4) 9 [.inr (some 138), .inr (some t), .inl dv, .inl a, .inl kd] (plm im t P) Q ↔ Q (some (.inl r.1)) (plm im t r.2)) ∧ TG r.2.1 ∧ (r.1 = 0 ∨ r.1 = 1) := by
  have kt := (zT_k ht).1
  have hru := rup_le (v := gt P.1 dv 5) (st := 16) (by omega) (by omega)
  have hB : SG (gatS P.1 (im (t + 3)) (im t 4) a kd P.2.1) := SG_gat hc hk
  have hg := fun Q => c_gather (d := d) (im := plm im t P) (Q := Q) (a := a) (kd := kd) ht zSh_139 (by rw [plm_c ht]; exact hc.1) hk (by rw [plm_n ht]; exact hn)
  simp only [plm_c ht, plm_w ht, plm_s ht, plm_n ht, plm_g1, plm_g2, plm_g3, plm_g4, plm_ch, plm_n1, plm_n2, plm_n3, plm_n4, plm_141, plm_158, plm_159, plm_161, plm_162, plm_s1, plm_s2, plm_s3, plm_s4, plm_sc ht, plm_sch, plm_162s] at hg
  have hlo := fun Q => c_lowest (d := d + 2) (im := plm im t (P.1, gatS P.1 (im (t + 3)) (im t 4) a kd P.2.1, P.2.2)) (Q := Q) zSh_139 (SBx_of hB plm_g1) (un := rup (gt P.1 dv 5) 16) (st := 16) (bg := begf P.1 a kd) (en := begf P.1 a kd + lenf P.1 (im (t + 2)) a kd) (by rw [plm_n1]; have := hB.1; have := hB.2.1; dsimp only; omega) (by omega) (by omega) (by omega)
  simp only [plm_g1] at hlo
  have hlc := lowS_cases hB (un := rup (gt P.1 dv 5) 16) (st := 16) (bg := begf P.1 a kd) (en := begf P.1 a kd + lenf P.1 (im (t + 2)) a kd) (by omega) hb.1
  subst hr
  by_cases c1 : rup (gt P.1 dv 5) 16 = 0
  · have ec : owS (im (t + 3)) (im (t + 2)) (im t 4) dv a kd P = (1, P) := if_pos c1
    rw [ec]
    refine ⟨?_, hc, Or.inr rfl⟩
    simp (disch := omega) only [en_9, wp_zreturn rk_9, pg_9_0, pg_9_20, pg_9_99, pg_9_100, cw_33, cw_43, cw_49, cw_50, cw_59, cw_60, cw_139, wp_iload, wp_aload, wp_istore, wp_astore, wp_iinc, wp_iconst, wp_dup, wp_dup2, wp_pop, wp_iadd, wp_isub, wp_imul, wp_idiv, wp_irem, wp_ineg, wp_iand, wp_ior, wp_ixor, wp_ishl, wp_ishr, wp_getI, wp_putI, wp_getR, wp_goto, wp_goto_w, wq_if_eq, wq_if_ne, wq_if_lt, wq_if_ge, wq_if_gt, wq_if_le, wq_icmp_eq, wq_icmp_ne, wq_icmp_lt, wq_icmp_ge, wq_icmp_gt, wq_icmp_le, wp_max, wp_min, kI_inl, kR_some, kN_inl, kO_some, KT_none, KT_some, List.length_cons, List.length_nil, Nat.reduceAdd, Nat.reduceLT, Nat.reduceLeDiff, Nat.reduceMod, Nat.reduceDiv, true_and, and_true, Int.reduceLE, Int.reduceNeg, Int.reduceLT, Int.cast_ofNat_Int, Nat.zero_le, zI, Int.reduceAdd, Int.reduceSub, Int.reduceMul, not_true_eq_false, not_false_eq_true, false_implies, true_implies, i01_0, i01_1, ite_not, ↓reduceIte, zget_0, zget_1, zget_2, zget_3, zget_4, zget_5, zget_6, zget_7, zget_8, zget_9, zget_10, zset_0, zset_1, zset_2, zset_3, zset_4, zset_5, zset_6, zset_7, zset_8, zset_9, zset_10, kd_138, rf_138_0, rf_138_1, rf_138_2, rf_138_3, rf_138_4, kp_139, kp_145, kp_151, kp_157, rp_141, rp_158, rp_159, rp_161, rp_162, wp_iaload kp_141, wp_iaload kp_158, wp_iaload kp_159, wp_iaload kp_161, wp_iaload kp_162, wp_iastore kp_162, wp_iaload kd_163, wp_iastore kd_163, kt, c_get ht, plm_c ht, c_roundUp, c1, not_true_eq_false, if_false, or_true, if_true]
    try (repeat (refine (and_iff_right (by omega)).trans ?_))
    try exact Iff.rfl
  · have ec : owS (im (t + 3)) (im (t + 2)) (im t 4) dv a kd P = (if lowS (gatS P.1 (im (t + 3)) (im t 4) a kd P.2.1) (rup (gt P.1 dv 5) 16) 16 (begf P.1 a kd) (begf P.1 a kd + lenf P.1 (im (t + 2)) a kd) = -1 then 0 else 1, (stc (stc P.1 dv (18 + kd) (lowS (gatS P.1 (im (t + 3)) (im t 4) a kd P.2.1) (rup (gt P.1 dv 5) 16) 16 (begf P.1 a kd) (begf P.1 a kd + lenf P.1 (im (t + 2)) a kd))) dv (20 + kd) (rup (gt P.1 dv 5) 16), gatS P.1 (im (t + 3)) (im t 4) a kd P.2.1, P.2.2)) := if_neg c1
    rw [ec]
    refine ⟨?_, TG_win hc hk (by omega) (by omega), ite_01⟩
    simp (disch := omega) only [en_9, wp_zreturn rk_9, pg_9_0, pg_9_20, pg_9_99, pg_9_100, cw_33, cw_43, cw_49, cw_50, cw_59, cw_60, cw_139, wp_iload, wp_aload, wp_istore, wp_astore, wp_iinc, wp_iconst, wp_dup, wp_dup2, wp_pop, wp_iadd, wp_isub, wp_imul, wp_idiv, wp_irem, wp_ineg, wp_iand, wp_ior, wp_ixor, wp_ishl, wp_ishr, wp_getI, wp_putI, wp_getR, wp_goto, wp_goto_w, wq_if_eq, wq_if_ne, wq_if_lt, wq_if_ge, wq_if_gt, wq_if_le, wq_icmp_eq, wq_icmp_ne, wq_icmp_lt, wq_icmp_ge, wq_icmp_gt, wq_icmp_le, wp_max, wp_min, kI_inl, kR_some, kN_inl, kO_some, KT_none, KT_some, List.length_cons, List.length_nil, Nat.reduceAdd, Nat.reduceLT, Nat.reduceLeDiff, Nat.reduceMod, Nat.reduceDiv, true_and, and_true, Int.reduceLE, Int.reduceNeg, Int.reduceLT, Int.cast_ofNat_Int, Nat.zero_le, zI, Int.reduceAdd, Int.reduceSub, Int.reduceMul, not_true_eq_false, not_false_eq_true, false_implies, true_implies, i01_0, i01_1, ite_not, ↓reduceIte, zget_0, zget_1, zget_2, zget_3, zget_4, zget_5, zget_6, zget_7, zget_8, zget_9, zget_10, zset_0, zset_1, zset_2, zset_3, zset_4, zset_5, zset_6, zset_7, zset_8, zset_9, zset_10, kd_138, rf_138_0, rf_138_1, rf_138_2, rf_138_3, rf_138_4, kp_139, kp_145, kp_151, kp_157, rp_141, rp_158, rp_159, rp_161, rp_162, wp_iaload kp_141, wp_iaload kp_158, wp_iaload kp_159, wp_iaload kp_161, wp_iaload kp_162, wp_iastore kp_162, wp_iaload kd_163, wp_iastore kd_163, kt, c_get ht, c_begin ht, c_length ht, plm_c ht, plm_s ht, c_roundUp, c1, not_false_eq_true, if_true, hg, hlo, c_setP ht]
    by_cases c2 : lowS (gatS P.1 (im (t + 3)) (im t 4) a kd P.2.1) (rup (gt P.1 dv 5) 16) 16 (begf P.1 a kd) (begf P.1 a kd + lenf P.1 (im (t + 2)) a kd) = -1
    · simp only [c2, if_true, true_or, true_and]
      repeat (refine (and_iff_right (by omega)).trans ?_)
      exact Iff.rfl
    · simp only [c2, if_false, or_true, true_and]
      repeat (refine (and_iff_right (by omega)).trans ?_)
      exact Iff.rfl
end PB2
