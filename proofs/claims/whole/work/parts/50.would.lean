/-! THE CLASS'S FACE: what power-up would do -/
section FC
variable {d s t u o : Nat} {im : zM} {Q : Option zV → zM → Prop} {a b v dv kd sl i j k f : Int}
def AgB (X im : zM) : Prop := ∀ p : Nat, p < 120 ∨ 138 ≤ p → X p = im p
theorem AgB_trl {X : zM} (h : AgB X im) : AgB (trl X) im := fun p hp => by rw [trl_ne (by omega), h p hp]
theorem AgB_setc {X : zM} {c : Int → Int} (h : AgB X im) : AgB (setc X 121 c) im := fun p hp => by rw [setc_ne _ _ (by omega), h p hp]
theorem AgB_stw {X : zM} {r : zWS} (h : AgB X im) : AgB (stw X 120 r) im := fun p hp => by rw [stw_ne (by omega) (by omega), h p hp]
theorem AgB_mt2 {X : zM} {c : Int → Int} {z : zSS} (h : AgB X im) : AgB (mt2 X 120 c z) im := fun p hp => by rw [mt2_ne zT_120 _ _ (by omega) (by omega), h p hp]
theorem AgB_mt3 {X : zM} {S : zPS} (h : AgB X im) : AgB (mt3 X 120 S) im := fun p hp => by
  unfold mt3
  rw [mt2_ne zT_120 _ _ (by omega) (by omega), str_ne _ _ (by omega) (by omega), h p hp]
theorem AgB_HH {X : zM} (h : AgB X im) (hh : HH im) : HH X := HH_of hh (h 1 (by omega))
/-- the trial tree without a device -/
def rmM (X : zM) (o : Int) : zM := stw (setc X 121 (rmc (X 121) (X 123) (X 120 4) o)) 120 (lp (lff (rmc (X 121) (X 123) (X 120 4) o)) (X 120 4).toNat 0 (X 123, 0))
theorem AgB_rmM {X : zM} (h : AgB X im) : AgB (rmM X o) im := AgB_stw (AgB_setc h)
theorem rmM_n {X : zM} : rmM X a 120 4 = (lp (lff (rmc (X 121) (X 123) (X 120 4) a)) (X 120 4).toNat 0 (X 123, 0)).2 := stw_n _ _ _
theorem c_rmM {X : zM} (hn : 0 ≤ X 120 4 ∧ X 120 4 ≤ 20) : CallP (d + 2) 72 [.inr (some 120), .inl dv] X Q ↔ Q (some (.inl (X 120 4 - rmM X dv 120 4))) (rmM X dv) := by
  rw [rmM_n]
  exact c_remove zT_120 hn
theorem lff_bd {c : Int → Int} : ∀ (n : Nat) (i : Int) (s : zWS), s.2 ≤ (lp (lff c) n i s).2 ∧ (lp (lff c) n i s).2 ≤ s.2 + n
  | 0, i, s => by simp only [lp]; omega
  | n + 1, i, s => by
    have := lff_bd (c := c) n (i + 1) (lff c i s)
    have e : s.2 ≤ (lff c i s).2 ∧ (lff c i s).2 ≤ s.2 + 1 := by
      unfold lff
      split
      · dsimp only
        omega
      · omega
    simp only [lp]
    omega
theorem rmM_nb {X : zM} (h : 0 ≤ X 120 4 ∧ X 120 4 ≤ 20) : 0 ≤ rmM X a 120 4 ∧ rmM X a 120 4 ≤ X 120 4 := by
  rw [rmM_n]
  have := lff_bd (c := rmc (X 121) (X 123) (X 120 4) a) (X 120 4).toNat 0 (X 123, 0)
  dsimp only at this
  omega
/-- what a try of blame must be known to do -/
def BlH (im : zM) (n dv : Int) (w : Int → Int) (B : Int → Bool) : Prop := ∀ X, AgB X im → (0 ≤ trl X 120 4 ∧ trl X 120 4 ≤ 20) ∧ ∀ i, -1 ≤ i → i < n → RunOK (rmM (trl X) (wka w n i)) 120 ∧ (gt (run2 (rmM (trl X) (wka w n i)) 120).1.1 dv 3 = 1 ↔ B (wka w n i) = true)
def blS (c w : Int → Int) (n dv : Int) (B : Int → Bool) : Nat → Int → Int
  | 0, _ => -1
  | m + 1, i => if 0 ≤ i ∧ (wka w n i = dv ∨ gt c (wka w n i) 0 ≠ 1) then blS c w n dv B m (i + 1) else if B (wka w n i) then wka w n i else blS c w n dv B m (i + 1)
theorem l_blame (h : HH im) (e : nowT (im 1 1) = t) (hn : 0 ≤ im t 4 ∧ im t 4 ≤ 20) {B : Int → Bool} (hB : BlH im (im t 4) dv (im (t + 3)) B) : ∀ (m : Nat) (i : Int) (X : zM) (x4 x5 : zV), -1 ≤ i → i + m = im t 4 → AgB X im → wp none (d + 9) 107 (zpg 107 21) [.inr (some 0), .inl dv, .inr (some t), .inl i, x4, x5] [] X (fun r Y => r = some (.inl (blS (im (t + 1)) (im (t + 3)) (im t 4) dv B m i)) ∧ AgB Y im)
  | 0, i, X, x4, x5, h0, h1, hX => by
    have ht : zT t := e ▸ nowT_z h.1
    have kt := (zT_k ht).1
    have hl := nowT_lt h.1
    have ex : X t = im t := hX t (by omega)
    rw [pg_107_21]
    simp (disch := omega) only [wp_ireturn rk_107, pg_107_19, pg_107_58, pg_107_93, pg_107_99, cw_1, cw_19, cw_52, cw_54, cw_58, cw_72, cw_136, wp_iload, wp_aload, wp_istore, wp_astore, wp_iinc, wp_iconst, wp_dup, wp_dup2, wp_pop, wp_iadd, wp_isub, wp_imul, wp_idiv, wp_irem, wp_ineg, wp_iand, wp_ior, wp_ixor, wp_ishl, wp_ishr, wp_getI, wp_putI, wp_getR, wp_goto, wp_goto_w, wq_if_eq, wq_if_ne, wq_if_lt, wq_if_ge, wq_if_gt, wq_if_le, wq_icmp_eq, wq_icmp_ne, wq_icmp_lt, wq_icmp_ge, wq_icmp_gt, wq_icmp_le, wp_max, wp_min, kI_inl, kR_some, kN_inl, kO_some, KT_none, KT_some, List.length_cons, List.length_nil, Nat.reduceAdd, Nat.reduceLT, Nat.reduceLeDiff, Nat.reduceMod, Nat.reduceDiv, true_and, and_true, Int.reduceLE, Int.reduceNeg, Int.reduceLT, Int.cast_ofNat_Int, Nat.zero_le, zI, Int.reduceAdd, Int.reduceSub, Int.reduceMul, not_true_eq_false, not_false_eq_true, false_implies, true_implies, i01_0, i01_1, ite_not, ↓reduceIte, zget_0, zget_1, zget_2, zget_3, zget_4, zget_5, zget_6, zget_7, zget_8, zget_9, zget_10, zset_0, zset_1, zset_2, zset_3, zset_4, zset_5, zset_6, zset_7, zset_8, zset_9, zset_10, kd_0, kd_1, kt_120, rf_0_0, rf_0_1, rf_0_2, rf_0_3, rf_0_4, rf_0_5, rf_0_6, rf_0_7, kd_131, kd_138, kd_164, kt, ex, show im t 4 ≤ i by omega, if_true, blS]
    exact hX
  | m + 1, i, X, x4, x5, h0, h1, hX => by
    have ht : zT t := e ▸ nowT_z h.1
    have kt := (zT_k ht).1
    have hl := nowT_lt h.1
    have ex : X t = im t := hX t (by omega)
    have ex1 : X (t + 1) = im (t + 1) := hX _ (by omega)
    have ex3 : X (t + 3) = im (t + 3) := hX _ (by omega)
    have ih := fun X x4 x5 => l_blame h e hn hB m (i + 1) X x4 x5 (by omega) (by omega)
    have hc := fun Q => c_copyOfNow (d := d + 7) (im := X) (Q := Q) (AgB_HH hX h)
    obtain ⟨hb1, hb2⟩ := hB X hX
    obtain ⟨hb3, hb4⟩ := hb2 i h0 (by omega)
    have hrm := fun dv Q => c_rmM (d := d + 6) (X := trl X) (dv := dv) (Q := Q) hb1
    have hnb := rmM_nb (a := wka (im (t + 3)) (im t 4) i) hb1
    have hr := fun Q => c_run (d := d) (im := rmM (trl X) (wka (im (t + 3)) (im t 4) i)) (Q := Q) zT_120 (by omega) hb3
    have hon := fun S Q => c_isOn (d := d + 7) (im := mt3 (rmM (trl X) (wka (im (t + 3)) (im t 4) i)) 120 S) (dv := dv) (Q := Q) zT_120
    simp only [mt3_c zT_120] at hon
    have hA : AgB (mt3 (rmM (trl X) (wka (im (t + 3)) (im t 4) i)) 120 (run2 (rmM (trl X) (wka (im (t + 3)) (im t 4) i)) 120)) im := AgB_mt3 (AgB_stw (AgB_setc (AgB_trl hX)))
    have hgo : ¬ (0 ≤ i ∧ (wka (im (t + 3)) (im t 4) i = dv ∨ gt (im (t + 1)) (wka (im (t + 3)) (im t 4) i) 0 ≠ 1)) → wp none (d + 9) 107 (zpg 107 58) [.inr (some 0), .inl dv, .inr (some t), .inl i, .inl (wka (im (t + 3)) (im t 4) i), x5] [] X (fun r Y => r = some (.inl (blS (im (t + 1)) (im (t + 3)) (im t 4) dv B (m + 1) i)) ∧ AgB Y im) := by
      intro hc1
      have eb : blS (im (t + 1)) (im (t + 3)) (im t 4) dv B (m + 1) i = if B (wka (im (t + 3)) (im t 4) i) then wka (im (t + 3)) (im t 4) i else blS (im (t + 1)) (im (t + 3)) (im t 4) dv B m (i + 1) := if_neg hc1
      rw [eb, pg_107_58]
      by_cases c2 : B (wka (im (t + 3)) (im t 4) i) = true
      · have c3 := hb4.mpr c2
        simp (disch := omega) only [wp_ireturn rk_107, pg_107_19, pg_107_58, pg_107_93, pg_107_99, cw_1, cw_19, cw_52, cw_54, cw_58, cw_72, cw_136, wp_iload, wp_aload, wp_istore, wp_astore, wp_iinc, wp_iconst, wp_dup, wp_dup2, wp_pop, wp_iadd, wp_isub, wp_imul, wp_idiv, wp_irem, wp_ineg, wp_iand, wp_ior, wp_ixor, wp_ishl, wp_ishr, wp_getI, wp_putI, wp_getR, wp_goto, wp_goto_w, wq_if_eq, wq_if_ne, wq_if_lt, wq_if_ge, wq_if_gt, wq_if_le, wq_icmp_eq, wq_icmp_ne, wq_icmp_lt, wq_icmp_ge, wq_icmp_gt, wq_icmp_le, wp_max, wp_min, kI_inl, kR_some, kN_inl, kO_some, KT_none, KT_some, List.length_cons, List.length_nil, Nat.reduceAdd, Nat.reduceLT, Nat.reduceLeDiff, Nat.reduceMod, Nat.reduceDiv, true_and, and_true, Int.reduceLE, Int.reduceNeg, Int.reduceLT, Int.cast_ofNat_Int, Nat.zero_le, zI, Int.reduceAdd, Int.reduceSub, Int.reduceMul, not_true_eq_false, not_false_eq_true, false_implies, true_implies, i01_0, i01_1, ite_not, ↓reduceIte, zget_0, zget_1, zget_2, zget_3, zget_4, zget_5, zget_6, zget_7, zget_8, zget_9, zget_10, zset_0, zset_1, zset_2, zset_3, zset_4, zset_5, zset_6, zset_7, zset_8, zset_9, zset_10, kd_0, kd_1, kt_120, rf_0_0, rf_0_1, rf_0_2, rf_0_3, rf_0_4, rf_0_5, rf_0_6, rf_0_7, kd_131, kd_138, kd_164, hc, hrm, hr, hon, c3, if_true, c2]
        simp only [show ¬ (1 : Int) = 0 by omega, if_false, true_and]
        exact hA
      · have c3 : ¬ gt (run2 (rmM (trl X) (wka (im (t + 3)) (im t 4) i)) 120).1.1 dv 3 = 1 := fun q => c2 (hb4.mp q)
        simp (disch := omega) only [wp_ireturn rk_107, pg_107_19, pg_107_58, pg_107_93, pg_107_99, cw_1, cw_19, cw_52, cw_54, cw_58, cw_72, cw_136, wp_iload, wp_aload, wp_istore, wp_astore, wp_iinc, wp_iconst, wp_dup, wp_dup2, wp_pop, wp_iadd, wp_isub, wp_imul, wp_idiv, wp_irem, wp_ineg, wp_iand, wp_ior, wp_ixor, wp_ishl, wp_ishr, wp_getI, wp_putI, wp_getR, wp_goto, wp_goto_w, wq_if_eq, wq_if_ne, wq_if_lt, wq_if_ge, wq_if_gt, wq_if_le, wq_icmp_eq, wq_icmp_ne, wq_icmp_lt, wq_icmp_ge, wq_icmp_gt, wq_icmp_le, wp_max, wp_min, kI_inl, kR_some, kN_inl, kO_some, KT_none, KT_some, List.length_cons, List.length_nil, Nat.reduceAdd, Nat.reduceLT, Nat.reduceLeDiff, Nat.reduceMod, Nat.reduceDiv, true_and, and_true, Int.reduceLE, Int.reduceNeg, Int.reduceLT, Int.cast_ofNat_Int, Nat.zero_le, zI, Int.reduceAdd, Int.reduceSub, Int.reduceMul, not_true_eq_false, not_false_eq_true, false_implies, true_implies, i01_0, i01_1, ite_not, ↓reduceIte, zget_0, zget_1, zget_2, zget_3, zget_4, zget_5, zget_6, zget_7, zget_8, zget_9, zget_10, zset_0, zset_1, zset_2, zset_3, zset_4, zset_5, zset_6, zset_7, zset_8, zset_9, zset_10, kd_0, kd_1, kt_120, rf_0_0, rf_0_1, rf_0_2, rf_0_3, rf_0_4, rf_0_5, rf_0_6, rf_0_7, kd_131, kd_138, kd_164, hc, hrm, hr, hon, c3, if_true, if_false, c2]
        repeat (refine (and_iff_right (by omega)).mpr ?_)
        exact ih _ _ _ hA
    have hno : 0 ≤ i ∧ (wka (im (t + 3)) (im t 4) i = dv ∨ gt (im (t + 1)) (wka (im (t + 3)) (im t 4) i) 0 ≠ 1) → wp none (d + 9) 107 (zpg 107 93) [.inr (some 0), .inl dv, .inr (some t), .inl i, .inl (wka (im (t + 3)) (im t 4) i), x5] [] X (fun r Y => r = some (.inl (blS (im (t + 1)) (im (t + 3)) (im t 4) dv B (m + 1) i)) ∧ AgB Y im) := by
      intro hc1
      have eb : blS (im (t + 1)) (im (t + 3)) (im t 4) dv B (m + 1) i = blS (im (t + 1)) (im (t + 3)) (im t 4) dv B m (i + 1) := if_pos hc1
      rw [eb, pg_107_93]
      simp (disch := omega) only [wp_iload, wp_aload, wp_istore, wp_astore, wp_iinc, wp_iconst, wp_dup, wp_dup2, wp_pop, wp_iadd, wp_isub, wp_imul, wp_idiv, wp_irem, wp_ineg, wp_iand, wp_ior, wp_ixor, wp_ishl, wp_ishr, wp_getI, wp_putI, wp_getR, wp_goto, wp_goto_w, wq_if_eq, wq_if_ne, wq_if_lt, wq_if_ge, wq_if_gt, wq_if_le, wq_icmp_eq, wq_icmp_ne, wq_icmp_lt, wq_icmp_ge, wq_icmp_gt, wq_icmp_le, wp_max, wp_min, kI_inl, kR_some, kN_inl, kO_some, KT_none, KT_some, List.length_cons, List.length_nil, Nat.reduceAdd, Nat.reduceLT, Nat.reduceLeDiff, Nat.reduceMod, Nat.reduceDiv, true_and, and_true, Int.reduceLE, Int.reduceNeg, Int.reduceLT, Int.cast_ofNat_Int, Nat.zero_le, zI, Int.reduceAdd, Int.reduceSub, Int.reduceMul, not_true_eq_false, not_false_eq_true, false_implies, true_implies, i01_0, i01_1, ite_not, ↓reduceIte, zget_0, zget_1, zget_2, zget_3, zget_4, zget_5, zget_6, zget_7, zget_8, zget_9, zget_10, zset_0, zset_1, zset_2, zset_3, zset_4, zset_5, zset_6, zset_7, zset_8, zset_9, zset_10]
      repeat (refine (and_iff_right (by omega)).mpr ?_)
      exact ih _ _ _ hX
    rw [pg_107_21]
    simp (disch := omega) only [wp_iload, wp_aload, wp_istore, wp_astore, wp_iinc, wp_iconst, wp_dup, wp_dup2, wp_pop, wp_iadd, wp_isub, wp_imul, wp_idiv, wp_irem, wp_ineg, wp_iand, wp_ior, wp_ixor, wp_ishl, wp_ishr, wp_getI, wp_putI, wp_getR, wp_goto, wp_goto_w, wq_if_eq, wq_if_ne, wq_if_lt, wq_if_ge, wq_if_gt, wq_if_le, wq_icmp_eq, wq_icmp_ne, wq_icmp_lt, wq_icmp_ge, wq_icmp_gt, wq_icmp_le, wp_max, wp_min, kI_inl, kR_some, kN_inl, kO_some, KT_none, KT_some, List.length_cons, List.length_nil, Nat.reduceAdd, Nat.reduceLT, Nat.reduceLeDiff, Nat.reduceMod, Nat.reduceDiv, true_and, and_true, Int.reduceLE, Int.reduceNeg, Int.reduceLT, Int.cast_ofNat_Int, Nat.zero_le, zI, Int.reduceAdd, Int.reduceSub, Int.reduceMul, not_true_eq_false, not_false_eq_true, false_implies, true_implies, i01_0, i01_1, ite_not, ↓reduceIte, zget_0, zget_1, zget_2, zget_3, zget_4, zget_5, zget_6, zget_7, zget_8, zget_9, zget_10, zset_0, zset_1, zset_2, zset_3, zset_4, zset_5, zset_6, zset_7, zset_8, zset_9, zset_10, cw_52, cw_58, kt, ex, ex1, ex3, show ¬ im t 4 ≤ i by omega, if_false, c_walkAt ht, c_isEndpoint ht]
    by_cases q1 : i < 0
    · simp only [q1, if_true]
      exact hgo (by omega)
    · simp only [q1, if_false]
      by_cases q2 : wka (im (t + 3)) (im t 4) i = dv
      · simp only [q2, if_true]
        rw [q2] at hno
        exact hno ⟨by omega, Or.inl rfl⟩
      · simp only [q2, if_false]
        by_cases q3 : gt (im (t + 1)) (wka (im (t + 3)) (im t 4) i) 0 = 1
        · simp only [q3, if_true]
          try simp only [show ¬ (1 : Int) = 0 by omega, if_false]
          exact hgo (fun q => q.2.elim q2 (fun q4 => q4 q3))
        · simp only [q3, if_true, if_false]
          exact hno ⟨by omega, Or.inr q3⟩
theorem c_blame (h : HH im) (e : nowT (im 1 1) = t) (hn : 0 ≤ im t 4 ∧ im t 4 ≤ 20) {B : Int → Bool} (hB : gt (im (t + 1)) dv 0 = 1 → BlH im (im t 4) dv (im (t + 3)) B) : CallP (d + 9) 107 [.inr (some 0), .inl dv] im (fun r Y => r = some (.inl (if gt (im (t + 1)) dv 0 = 1 then blS (im (t + 1)) (im (t + 3)) (im t 4) dv B ((im t 4).toNat + 1) (-1) else -2)) ∧ AgB Y im) := by
  have ht : zT t := e ▸ nowT_z h.1
  have kt := (zT_k ht).1
  have hnw := fun d Q => c_now (d := d) (im := im) (Q := Q) h.1
  simp only [e] at hnw
  by_cases c1 : gt (im (t + 1)) dv 0 = 1
  · have hl := l_blame (d := d) h e hn (hB c1) ((im t 4).toNat + 1) (-1) im (.inr none) (.inr none) (by omega) (by omega) (fun _ _ => rfl)
    simp (disch := omega) only [en_107, wp_ireturn rk_107, pg_107_0, pg_107_19, pg_107_58, pg_107_93, pg_107_99, cw_1, cw_19, cw_52, cw_54, cw_58, cw_72, cw_136, wp_iload, wp_aload, wp_istore, wp_astore, wp_iinc, wp_iconst, wp_dup, wp_dup2, wp_pop, wp_iadd, wp_isub, wp_imul, wp_idiv, wp_irem, wp_ineg, wp_iand, wp_ior, wp_ixor, wp_ishl, wp_ishr, wp_getI, wp_putI, wp_getR, wp_goto, wp_goto_w, wq_if_eq, wq_if_ne, wq_if_lt, wq_if_ge, wq_if_gt, wq_if_le, wq_icmp_eq, wq_icmp_ne, wq_icmp_lt, wq_icmp_ge, wq_icmp_gt, wq_icmp_le, wp_max, wp_min, kI_inl, kR_some, kN_inl, kO_some, KT_none, KT_some, List.length_cons, List.length_nil, Nat.reduceAdd, Nat.reduceLT, Nat.reduceLeDiff, Nat.reduceMod, Nat.reduceDiv, true_and, and_true, Int.reduceLE, Int.reduceNeg, Int.reduceLT, Int.cast_ofNat_Int, Nat.zero_le, zI, Int.reduceAdd, Int.reduceSub, Int.reduceMul, not_true_eq_false, not_false_eq_true, false_implies, true_implies, i01_0, i01_1, ite_not, ↓reduceIte, zget_0, zget_1, zget_2, zget_3, zget_4, zget_5, zget_6, zget_7, zget_8, zget_9, zget_10, zset_0, zset_1, zset_2, zset_3, zset_4, zset_5, zset_6, zset_7, zset_8, zset_9, zset_10, kd_0, kd_1, kt_120, rf_0_0, rf_0_1, rf_0_2, rf_0_3, rf_0_4, rf_0_5, rf_0_6, rf_0_7, kd_131, kd_138, kd_164, kt, hnw, c_isEndpoint ht, c1, if_true]
    simp only [show ¬ (1 : Int) = 0 by omega, not_false_eq_true, if_true]
    exact hl
  · simp (disch := omega) only [en_107, wp_ireturn rk_107, pg_107_0, pg_107_19, pg_107_58, pg_107_93, pg_107_99, cw_1, cw_19, cw_52, cw_54, cw_58, cw_72, cw_136, wp_iload, wp_aload, wp_istore, wp_astore, wp_iinc, wp_iconst, wp_dup, wp_dup2, wp_pop, wp_iadd, wp_isub, wp_imul, wp_idiv, wp_irem, wp_ineg, wp_iand, wp_ior, wp_ixor, wp_ishl, wp_ishr, wp_getI, wp_putI, wp_getR, wp_goto, wp_goto_w, wq_if_eq, wq_if_ne, wq_if_lt, wq_if_ge, wq_if_gt, wq_if_le, wq_icmp_eq, wq_icmp_ne, wq_icmp_lt, wq_icmp_ge, wq_icmp_gt, wq_icmp_le, wp_max, wp_min, kI_inl, kR_some, kN_inl, kO_some, KT_none, KT_some, List.length_cons, List.length_nil, Nat.reduceAdd, Nat.reduceLT, Nat.reduceLeDiff, Nat.reduceMod, Nat.reduceDiv, true_and, and_true, Int.reduceLE, Int.reduceNeg, Int.reduceLT, Int.cast_ofNat_Int, Nat.zero_le, zI, Int.reduceAdd, Int.reduceSub, Int.reduceMul, not_true_eq_false, not_false_eq_true, false_implies, true_implies, i01_0, i01_1, ite_not, ↓reduceIte, zget_0, zget_1, zget_2, zget_3, zget_4, zget_5, zget_6, zget_7, zget_8, zget_9, zget_10, zset_0, zset_1, zset_2, zset_3, zset_4, zset_5, zset_6, zset_7, zset_8, zset_9, zset_10, kd_0, kd_1, kt_120, rf_0_0, rf_0_1, rf_0_2, rf_0_3, rf_0_4, rf_0_5, rf_0_6, rf_0_7, kd_131, kd_138, kd_164, kt, hnw, c_isEndpoint ht, c1, if_true, if_false]
    exact fun _ _ => rfl
/-- the way of chance: the number, how many are gone, the trial's memory -/
def chf (c w : Int → Int) (n below : Int) (i : Int) (y : Int × Int × zM) : Int × Int × zM :=
  if gt c (wka w n i) 0 = 1 then (if ((137 * y.1 + 71) % 1000) % 100 < below then ((137 * y.1 + 71) % 1000, y.2.1 + (y.2.2 120 4 - rmM y.2.2 (wka w n i) 120 4), rmM y.2.2 (wka w n i)) else ((137 * y.1 + 71) % 1000, y.2.1, y.2.2)) else y
theorem l_chance (h : HH im) (e : nowT (im 1 1) = t) {below x1 : Int} {x3 : zV} (hn : 0 ≤ im t 4 ∧ im t 4 ≤ 20) : ∀ (m : Nat) (i : Int) (y : Int × Int × zM) (x9 : zV), 0 ≤ i → i + m = im t 4 → (0 ≤ y.1 ∧ y.1 < 1000) → (0 ≤ y.2.1 ∧ y.2.1 ≤ 20 * i) → (0 ≤ y.2.2 120 4 ∧ y.2.2 120 4 ≤ 20) → AgB y.2.2 im →
    ∃ x1', (0 ≤ (lp (chf (im (t + 1)) (im (t + 3)) (im t 4) below) m i y).2.2 120 4 ∧ (lp (chf (im (t + 1)) (im (t + 3)) (im t 4) below) m i y).2.2 120 4 ≤ 20) ∧ AgB (lp (chf (im (t + 1)) (im (t + 3)) (im t 4) below) m i y).2.2 im ∧ ∀ Q, wp none (d + 9) 108 (zpg 108 47) [.inr (some 0), .inl x1, .inl below, x3, .inr (some t), .inr (some 120), .inl y.1, .inl y.2.1, .inl i, x9] [] y.2.2 Q ↔ wp none (d + 9) 108 (zpg 108 118) [.inr (some 0), .inl x1, .inl below, x3, .inr (some t), .inr (some 120), .inl (lp (chf (im (t + 1)) (im (t + 3)) (im t 4) below) m i y).1, .inl (lp (chf (im (t + 1)) (im (t + 3)) (im t 4) below) m i y).2.1, .inl (im t 4), x1'] [] (lp (chf (im (t + 1)) (im (t + 3)) (im t 4) below) m i y).2.2 Q
  | 0, i, y, x9, h0, h1, h2, h3, h4, hX => by
    refine ⟨x9, h4, hX, fun Q => ?_⟩
    have ht : zT t := e ▸ nowT_z h.1
    have kt := (zT_k ht).1
    have hl := nowT_lt h.1
    have ex : y.2.2 t = im t := hX t (by omega)
    conv => lhs; rw [pg_108_47]
    simp (disch := omega) only [wp_iload, wp_aload, wp_istore, wp_astore, wp_iinc, wp_iconst, wp_dup, wp_dup2, wp_pop, wp_iadd, wp_isub, wp_imul, wp_idiv, wp_irem, wp_ineg, wp_iand, wp_ior, wp_ixor, wp_ishl, wp_ishr, wp_getI, wp_putI, wp_getR, wp_goto, wp_goto_w, wq_if_eq, wq_if_ne, wq_if_lt, wq_if_ge, wq_if_gt, wq_if_le, wq_icmp_eq, wq_icmp_ne, wq_icmp_lt, wq_icmp_ge, wq_icmp_gt, wq_icmp_le, wp_max, wp_min, kI_inl, kR_some, kN_inl, kO_some, KT_none, KT_some, List.length_cons, List.length_nil, Nat.reduceAdd, Nat.reduceLT, Nat.reduceLeDiff, Nat.reduceMod, Nat.reduceDiv, true_and, and_true, Int.reduceLE, Int.reduceNeg, Int.reduceLT, Int.cast_ofNat_Int, Nat.zero_le, zI, Int.reduceAdd, Int.reduceSub, Int.reduceMul, not_true_eq_false, not_false_eq_true, false_implies, true_implies, i01_0, i01_1, ite_not, ↓reduceIte, zget_0, zget_1, zget_2, zget_3, zget_4, zget_5, zget_6, zget_7, zget_8, zget_9, zget_10, zset_0, zset_1, zset_2, zset_3, zset_4, zset_5, zset_6, zset_7, zset_8, zset_9, zset_10, kd_0, kd_1, kt_120, rf_0_0, rf_0_1, rf_0_2, rf_0_3, rf_0_4, rf_0_5, rf_0_6, rf_0_7, kd_131, kd_138, kd_164, kt, ex, show im t 4 ≤ i by omega, if_true, lp]
    rw [show i = im t 4 by omega]
  | m + 1, i, y, x9, h0, h1, h2, h3, h4, hX => by
    have ht : zT t := e ▸ nowT_z h.1
    have kt := (zT_k ht).1
    have hl := nowT_lt h.1
    have ex : y.2.2 t = im t := hX t (by omega)
    have ex1 : y.2.2 (t + 1) = im (t + 1) := hX _ (by omega)
    have ex3 : y.2.2 (t + 3) = im (t + 3) := hX _ (by omega)
    have hrm := fun dv Q => c_rmM (d := d + 6) (X := y.2.2) (dv := dv) (Q := Q) h4
    have hnb := rmM_nb (a := wka (im (t + 3)) (im t 4) i) h4
    have t1 : (137 * y.1 + 71).tmod 1000 = (137 * y.1 + 71) % 1000 := Int.tmod_eq_emod_of_nonneg (by omega)
    have t2 : (137 * y.1 + 71).tdiv 1000 = (137 * y.1 + 71) / 1000 := Int.tdiv_eq_ediv_of_nonneg (by omega)
    have t3 : ((137 * y.1 + 71) % 1000).tmod 100 = ((137 * y.1 + 71) % 1000) % 100 := Int.tmod_eq_emod_of_nonneg (by omega)
    have t4 : ((137 * y.1 + 71) % 1000).tdiv 100 = ((137 * y.1 + 71) % 1000) / 100 := Int.tdiv_eq_ediv_of_nonneg (by omega)
    have ih := fun y x9 => l_chance h e (x1 := x1) (x3 := x3) (below := below) hn m (i + 1) y x9 (by omega) (by omega)
    by_cases c1 : gt (im (t + 1)) (wka (im (t + 3)) (im t 4) i) 0 = 1
    · by_cases c2 : ((137 * y.1 + 71) % 1000) % 100 < below
      · have ec : chf (im (t + 1)) (im (t + 3)) (im t 4) below i y = ((137 * y.1 + 71) % 1000, y.2.1 + (y.2.2 120 4 - rmM y.2.2 (wka (im (t + 3)) (im t 4) i) 120 4), rmM y.2.2 (wka (im (t + 3)) (im t 4) i)) := by
          unfold chf
          rw [if_pos c1, if_pos c2]
        obtain ⟨x1', i1, i2, i3⟩ := ih (chf (im (t + 1)) (im (t + 3)) (im t 4) below i y) (.inl (wka (im (t + 3)) (im t 4) i)) (by rw [ec]; dsimp only; omega) (by rw [ec]; dsimp only; omega) (by rw [ec]; dsimp only; omega) (by rw [ec]; exact AgB_stw (AgB_setc hX))
        refine ⟨x1', i1, i2, fun Q => ?_⟩
        refine Iff.trans ?_ (i3 Q)
        rw [ec]
        conv => lhs; rw [pg_108_47]
        simp (disch := omega) only [wp_iload, wp_aload, wp_istore, wp_astore, wp_iinc, wp_iconst, wp_dup, wp_dup2, wp_pop, wp_iadd, wp_isub, wp_imul, wp_idiv, wp_irem, wp_ineg, wp_iand, wp_ior, wp_ixor, wp_ishl, wp_ishr, wp_getI, wp_putI, wp_getR, wp_goto, wp_goto_w, wq_if_eq, wq_if_ne, wq_if_lt, wq_if_ge, wq_if_gt, wq_if_le, wq_icmp_eq, wq_icmp_ne, wq_icmp_lt, wq_icmp_ge, wq_icmp_gt, wq_icmp_le, wp_max, wp_min, kI_inl, kR_some, kN_inl, kO_some, KT_none, KT_some, List.length_cons, List.length_nil, Nat.reduceAdd, Nat.reduceLT, Nat.reduceLeDiff, Nat.reduceMod, Nat.reduceDiv, true_and, and_true, Int.reduceLE, Int.reduceNeg, Int.reduceLT, Int.cast_ofNat_Int, Nat.zero_le, zI, Int.reduceAdd, Int.reduceSub, Int.reduceMul, not_true_eq_false, not_false_eq_true, false_implies, true_implies, i01_0, i01_1, ite_not, ↓reduceIte, zget_0, zget_1, zget_2, zget_3, zget_4, zget_5, zget_6, zget_7, zget_8, zget_9, zget_10, zset_0, zset_1, zset_2, zset_3, zset_4, zset_5, zset_6, zset_7, zset_8, zset_9, zset_10, kd_0, kd_1, kt_120, rf_0_0, rf_0_1, rf_0_2, rf_0_3, rf_0_4, rf_0_5, rf_0_6, rf_0_7, kd_131, kd_138, kd_164, cw_52, cw_58, cw_72, kt, ex, ex1, ex3, show ¬ im t 4 ≤ i by omega, if_false, c_walkAt ht, c_isEndpoint ht, c1, if_true, t1, t2, t3, t4, show ¬ below ≤ (137 * y.1 + 71) % 1000 % 100 by omega, hrm]
        try simp only [show ¬ (1 : Int) = 0 by omega, if_false]
        try (repeat (refine (and_iff_right (by omega)).trans ?_))
        try exact Iff.rfl
      · have ec : chf (im (t + 1)) (im (t + 3)) (im t 4) below i y = ((137 * y.1 + 71) % 1000, y.2.1, y.2.2) := by
          unfold chf
          rw [if_pos c1, if_neg c2]
        obtain ⟨x1', i1, i2, i3⟩ := ih (chf (im (t + 1)) (im (t + 3)) (im t 4) below i y) (.inl (wka (im (t + 3)) (im t 4) i)) (by rw [ec]; dsimp only; omega) (by rw [ec]; dsimp only; omega) (by rw [ec]; exact h4) (by rw [ec]; exact hX)
        refine ⟨x1', i1, i2, fun Q => ?_⟩
        refine Iff.trans ?_ (i3 Q)
        rw [ec]
        conv => lhs; rw [pg_108_47]
        simp (disch := omega) only [wp_iload, wp_aload, wp_istore, wp_astore, wp_iinc, wp_iconst, wp_dup, wp_dup2, wp_pop, wp_iadd, wp_isub, wp_imul, wp_idiv, wp_irem, wp_ineg, wp_iand, wp_ior, wp_ixor, wp_ishl, wp_ishr, wp_getI, wp_putI, wp_getR, wp_goto, wp_goto_w, wq_if_eq, wq_if_ne, wq_if_lt, wq_if_ge, wq_if_gt, wq_if_le, wq_icmp_eq, wq_icmp_ne, wq_icmp_lt, wq_icmp_ge, wq_icmp_gt, wq_icmp_le, wp_max, wp_min, kI_inl, kR_some, kN_inl, kO_some, KT_none, KT_some, List.length_cons, List.length_nil, Nat.reduceAdd, Nat.reduceLT, Nat.reduceLeDiff, Nat.reduceMod, Nat.reduceDiv, true_and, and_true, Int.reduceLE, Int.reduceNeg, Int.reduceLT, Int.cast_ofNat_Int, Nat.zero_le, zI, Int.reduceAdd, Int.reduceSub, Int.reduceMul, not_true_eq_false, not_false_eq_true, false_implies, true_implies, i01_0, i01_1, ite_not, ↓reduceIte, zget_0, zget_1, zget_2, zget_3, zget_4, zget_5, zget_6, zget_7, zget_8, zget_9, zget_10, zset_0, zset_1, zset_2, zset_3, zset_4, zset_5, zset_6, zset_7, zset_8, zset_9, zset_10, kd_0, kd_1, kt_120, rf_0_0, rf_0_1, rf_0_2, rf_0_3, rf_0_4, rf_0_5, rf_0_6, rf_0_7, kd_131, kd_138, kd_164, cw_52, cw_58, cw_72, pg_108_112, kt, ex, ex1, ex3, show ¬ im t 4 ≤ i by omega, if_false, c_walkAt ht, c_isEndpoint ht, c1, if_true, t1, t2, t3, t4, show below ≤ (137 * y.1 + 71) % 1000 % 100 by omega]
        try simp only [show ¬ (1 : Int) = 0 by omega, if_false]
        try (repeat (refine (and_iff_right (by omega)).trans ?_))
        try exact Iff.rfl
    · have ec : chf (im (t + 1)) (im (t + 3)) (im t 4) below i y = y := by
        unfold chf
        rw [if_neg c1]
      obtain ⟨x1', i1, i2, i3⟩ := ih (chf (im (t + 1)) (im (t + 3)) (im t 4) below i y) (.inl (wka (im (t + 3)) (im t 4) i)) (by rw [ec]; omega) (by rw [ec]; omega) (by rw [ec]; exact h4) (by rw [ec]; exact hX)
      refine ⟨x1', i1, i2, fun Q => ?_⟩
      refine Iff.trans ?_ (i3 Q)
      rw [ec]
      conv => lhs; rw [pg_108_47]
      simp (disch := omega) only [wp_iload, wp_aload, wp_istore, wp_astore, wp_iinc, wp_iconst, wp_dup, wp_dup2, wp_pop, wp_iadd, wp_isub, wp_imul, wp_idiv, wp_irem, wp_ineg, wp_iand, wp_ior, wp_ixor, wp_ishl, wp_ishr, wp_getI, wp_putI, wp_getR, wp_goto, wp_goto_w, wq_if_eq, wq_if_ne, wq_if_lt, wq_if_ge, wq_if_gt, wq_if_le, wq_icmp_eq, wq_icmp_ne, wq_icmp_lt, wq_icmp_ge, wq_icmp_gt, wq_icmp_le, wp_max, wp_min, kI_inl, kR_some, kN_inl, kO_some, KT_none, KT_some, List.length_cons, List.length_nil, Nat.reduceAdd, Nat.reduceLT, Nat.reduceLeDiff, Nat.reduceMod, Nat.reduceDiv, true_and, and_true, Int.reduceLE, Int.reduceNeg, Int.reduceLT, Int.cast_ofNat_Int, Nat.zero_le, zI, Int.reduceAdd, Int.reduceSub, Int.reduceMul, not_true_eq_false, not_false_eq_true, false_implies, true_implies, i01_0, i01_1, ite_not, ↓reduceIte, zget_0, zget_1, zget_2, zget_3, zget_4, zget_5, zget_6, zget_7, zget_8, zget_9, zget_10, zset_0, zset_1, zset_2, zset_3, zset_4, zset_5, zset_6, zset_7, zset_8, zset_9, zset_10, kd_0, kd_1, kt_120, rf_0_0, rf_0_1, rf_0_2, rf_0_3, rf_0_4, rf_0_5, rf_0_6, rf_0_7, kd_131, kd_138, kd_164, cw_52, cw_58, cw_72, pg_108_112, kt, ex, ex1, ex3, show ¬ im t 4 ≤ i by omega, if_false, c_walkAt ht, c_isEndpoint ht, c1, if_true]
      try (repeat (refine (and_iff_right (by omega)).trans ?_))
      try exact Iff.rfl
def chS (im : zM) (t : Nat) (seed below : Int) : Int × Int × zM := lp (chf (im (t + 1)) (im (t + 3)) (im t 4) below) (im t 4).toNat 0 (seed, 0, trl im)
theorem c_chance (h : HH im) (e : nowT (im 1 1) = t) (hn : 0 ≤ im t 4 ∧ im t 4 ≤ 20) {below w : Int} (hok : (0 ≤ a ∧ a < 1000) → (0 ≤ below ∧ below ≤ 100) → RunOK (chS im t a below).2.2 120) : CallP (d + 9) 108 [.inr (some 0), .inl a, .inl below, .inl w] im (fun r Y => r = some (.inl (if (0 ≤ a ∧ a < 1000) ∧ (0 ≤ below ∧ below ≤ 100) then (if w = 0 then lp (cntf (onB (run2 (chS im t a below).2.2 120).1.1)) 20 0 0 else if w = 1 then (chS im t a below).2.1 else if w = 2 then (run2 (chS im t a below).2.2 120).2.2 else -1) else -1)) ∧ AgB Y im) := by
  have ht : zT t := e ▸ nowT_z h.1
  have kt := (zT_k ht).1
  have hnw := fun d Q => c_now (d := d) (im := im) (Q := Q) h.1
  simp only [e] at hnw
  have htl : trl im 120 4 = im t 4 := by
    unfold trl cpt
    rw [setc_at, ups_ne _ _ (by omega), ups_at, e]
  by_cases c1 : (0 ≤ a ∧ a < 1000) ∧ (0 ≤ below ∧ below ≤ 100)
  · obtain ⟨x1', i1, i2, i3⟩ := l_chance (d := d) h e (below := below) (x1 := a) (x3 := .inl w) hn (im t 4).toNat 0 (a, 0, trl im) (.inr none) (by omega) (by omega) c1.1 ⟨Int.le_refl _, by dsimp only; omega⟩ (by dsimp only; omega) (AgB_trl (fun _ _ => rfl))
    have hc := fun Q => c_copyOfNow (d := d + 7) (im := im) (Q := Q) h
    have e0 : ∀ Q, CallP (d + 9) 108 [.inr (some 0), .inl a, .inl below, .inl w] im Q ↔ wp none (d + 9) 108 (zpg 108 118) [.inr (some 0), .inl a, .inl below, .inl w, .inr (some t), .inr (some 120), .inl (chS im t a below).1, .inl (chS im t a below).2.1, .inl (im t 4), x1'] [] (chS im t a below).2.2 Q := by
      intro Q
      refine Iff.trans ?_ (i3 Q)
      simp (disch := omega) only [en_108, pg_108_0, pg_108_23, cw_1, cw_136, wp_iload, wp_aload, wp_istore, wp_astore, wp_iinc, wp_iconst, wp_dup, wp_dup2, wp_pop, wp_iadd, wp_isub, wp_imul, wp_idiv, wp_irem, wp_ineg, wp_iand, wp_ior, wp_ixor, wp_ishl, wp_ishr, wp_getI, wp_putI, wp_getR, wp_goto, wp_goto_w, wq_if_eq, wq_if_ne, wq_if_lt, wq_if_ge, wq_if_gt, wq_if_le, wq_icmp_eq, wq_icmp_ne, wq_icmp_lt, wq_icmp_ge, wq_icmp_gt, wq_icmp_le, wp_max, wp_min, kI_inl, kR_some, kN_inl, kO_some, KT_none, KT_some, List.length_cons, List.length_nil, Nat.reduceAdd, Nat.reduceLT, Nat.reduceLeDiff, Nat.reduceMod, Nat.reduceDiv, true_and, and_true, Int.reduceLE, Int.reduceNeg, Int.reduceLT, Int.cast_ofNat_Int, Nat.zero_le, zI, Int.reduceAdd, Int.reduceSub, Int.reduceMul, not_true_eq_false, not_false_eq_true, false_implies, true_implies, i01_0, i01_1, ite_not, ↓reduceIte, zget_0, zget_1, zget_2, zget_3, zget_4, zget_5, zget_6, zget_7, zget_8, zget_9, zget_10, zset_0, zset_1, zset_2, zset_3, zset_4, zset_5, zset_6, zset_7, zset_8, zset_9, zset_10, kd_0, kd_1, kt_120, rf_0_0, rf_0_1, rf_0_2, rf_0_3, rf_0_4, rf_0_5, rf_0_6, rf_0_7, kd_131, kd_138, kd_164, hnw, hc, show ¬ a < 0 by omega, show ¬ 1000 ≤ a by omega, show ¬ below < 0 by omega, show below ≤ 100 by omega, if_true, if_false]
    rw [e0, if_pos c1]
    have i1' : 0 ≤ (chS im t a below).2.2 120 4 ∧ (chS im t a below).2.2 120 4 ≤ 20 := i1
    have hr := fun Q => c_run (d := d) (im := (chS im t a below).2.2) (Q := Q) zT_120 i1' (hok c1.1 c1.2)
    have hA : AgB (mt3 (chS im t a below).2.2 120 (run2 (chS im t a below).2.2 120)) im := AgB_mt3 i2
    have hco := fun X Q => c_countOn (d := d + 6) (im := X) (Q := Q) zT_120
    have e5 : ∀ X (S : zPS), mt3 X 120 S 120 5 = S.2.2 := fun X S => by rw [mt3_t zT_120, ups_at]
    have e1 : ∀ X (S : zPS), mt3 X 120 S 121 = S.1.1 := fun X S => mt3_c zT_120 S
    rw [pg_108_118]
    rcases (show w < 0 ∨ w = 0 ∨ w = 1 ∨ w = 2 ∨ 2 < w by omega) with g | rfl | rfl | rfl | g
    · simp (disch := omega) only [wp_ireturn rk_108, pg_108_21, pg_108_23, pg_108_112, pg_108_118, pg_108_156, pg_108_162, pg_108_165, pg_108_171, cw_1, cw_19, cw_52, cw_58, cw_72, cw_80, cw_136, wp_iload, wp_aload, wp_istore, wp_astore, wp_iinc, wp_iconst, wp_dup, wp_dup2, wp_pop, wp_iadd, wp_isub, wp_imul, wp_idiv, wp_irem, wp_ineg, wp_iand, wp_ior, wp_ixor, wp_ishl, wp_ishr, wp_getI, wp_putI, wp_getR, wp_goto, wp_goto_w, wq_if_eq, wq_if_ne, wq_if_lt, wq_if_ge, wq_if_gt, wq_if_le, wq_icmp_eq, wq_icmp_ne, wq_icmp_lt, wq_icmp_ge, wq_icmp_gt, wq_icmp_le, wp_max, wp_min, kI_inl, kR_some, kN_inl, kO_some, KT_none, KT_some, List.length_cons, List.length_nil, Nat.reduceAdd, Nat.reduceLT, Nat.reduceLeDiff, Nat.reduceMod, Nat.reduceDiv, true_and, and_true, Int.reduceLE, Int.reduceNeg, Int.reduceLT, Int.cast_ofNat_Int, Nat.zero_le, zI, Int.reduceAdd, Int.reduceSub, Int.reduceMul, not_true_eq_false, not_false_eq_true, false_implies, true_implies, i01_0, i01_1, ite_not, ↓reduceIte, zget_0, zget_1, zget_2, zget_3, zget_4, zget_5, zget_6, zget_7, zget_8, zget_9, zget_10, zset_0, zset_1, zset_2, zset_3, zset_4, zset_5, zset_6, zset_7, zset_8, zset_9, zset_10, kd_0, kd_1, kt_120, rf_0_0, rf_0_1, rf_0_2, rf_0_3, rf_0_4, rf_0_5, rf_0_6, rf_0_7, kd_131, kd_138, kd_164, hr, wp_switch, sw_at, List.getD_cons_zero, List.getD_cons_succ, Int.reduceSub, Int.reduceToNat, Int.reduceLT, or_self, or_false, false_or, not_false_eq_true, true_implies, false_implies, true_and, and_true, g, true_or, show ¬ w = 0 by omega, show ¬ w = 1 by omega, show ¬ w = 2 by omega, if_false]
      exact hA
    · simp (disch := omega) only [wp_ireturn rk_108, pg_108_21, pg_108_23, pg_108_112, pg_108_118, pg_108_156, pg_108_162, pg_108_165, pg_108_171, cw_1, cw_19, cw_52, cw_58, cw_72, cw_80, cw_136, wp_iload, wp_aload, wp_istore, wp_astore, wp_iinc, wp_iconst, wp_dup, wp_dup2, wp_pop, wp_iadd, wp_isub, wp_imul, wp_idiv, wp_irem, wp_ineg, wp_iand, wp_ior, wp_ixor, wp_ishl, wp_ishr, wp_getI, wp_putI, wp_getR, wp_goto, wp_goto_w, wq_if_eq, wq_if_ne, wq_if_lt, wq_if_ge, wq_if_gt, wq_if_le, wq_icmp_eq, wq_icmp_ne, wq_icmp_lt, wq_icmp_ge, wq_icmp_gt, wq_icmp_le, wp_max, wp_min, kI_inl, kR_some, kN_inl, kO_some, KT_none, KT_some, List.length_cons, List.length_nil, Nat.reduceAdd, Nat.reduceLT, Nat.reduceLeDiff, Nat.reduceMod, Nat.reduceDiv, true_and, and_true, Int.reduceLE, Int.reduceNeg, Int.reduceLT, Int.cast_ofNat_Int, Nat.zero_le, zI, Int.reduceAdd, Int.reduceSub, Int.reduceMul, not_true_eq_false, not_false_eq_true, false_implies, true_implies, i01_0, i01_1, ite_not, ↓reduceIte, zget_0, zget_1, zget_2, zget_3, zget_4, zget_5, zget_6, zget_7, zget_8, zget_9, zget_10, zset_0, zset_1, zset_2, zset_3, zset_4, zset_5, zset_6, zset_7, zset_8, zset_9, zset_10, kd_0, kd_1, kt_120, rf_0_0, rf_0_1, rf_0_2, rf_0_3, rf_0_4, rf_0_5, rf_0_6, rf_0_7, kd_131, kd_138, kd_164, hr, wp_switch, sw_at, List.getD_cons_zero, List.getD_cons_succ, Int.reduceSub, Int.reduceToNat, Int.reduceLT, or_self, or_false, false_or, not_false_eq_true, true_implies, false_implies, true_and, and_true, hco, e1, if_true]
      exact hA
    · simp (disch := omega) only [wp_ireturn rk_108, pg_108_21, pg_108_23, pg_108_112, pg_108_118, pg_108_156, pg_108_162, pg_108_165, pg_108_171, cw_1, cw_19, cw_52, cw_58, cw_72, cw_80, cw_136, wp_iload, wp_aload, wp_istore, wp_astore, wp_iinc, wp_iconst, wp_dup, wp_dup2, wp_pop, wp_iadd, wp_isub, wp_imul, wp_idiv, wp_irem, wp_ineg, wp_iand, wp_ior, wp_ixor, wp_ishl, wp_ishr, wp_getI, wp_putI, wp_getR, wp_goto, wp_goto_w, wq_if_eq, wq_if_ne, wq_if_lt, wq_if_ge, wq_if_gt, wq_if_le, wq_icmp_eq, wq_icmp_ne, wq_icmp_lt, wq_icmp_ge, wq_icmp_gt, wq_icmp_le, wp_max, wp_min, kI_inl, kR_some, kN_inl, kO_some, KT_none, KT_some, List.length_cons, List.length_nil, Nat.reduceAdd, Nat.reduceLT, Nat.reduceLeDiff, Nat.reduceMod, Nat.reduceDiv, true_and, and_true, Int.reduceLE, Int.reduceNeg, Int.reduceLT, Int.cast_ofNat_Int, Nat.zero_le, zI, Int.reduceAdd, Int.reduceSub, Int.reduceMul, not_true_eq_false, not_false_eq_true, false_implies, true_implies, i01_0, i01_1, ite_not, ↓reduceIte, zget_0, zget_1, zget_2, zget_3, zget_4, zget_5, zget_6, zget_7, zget_8, zget_9, zget_10, zset_0, zset_1, zset_2, zset_3, zset_4, zset_5, zset_6, zset_7, zset_8, zset_9, zset_10, kd_0, kd_1, kt_120, rf_0_0, rf_0_1, rf_0_2, rf_0_3, rf_0_4, rf_0_5, rf_0_6, rf_0_7, kd_131, kd_138, kd_164, hr, wp_switch, sw_at, List.getD_cons_zero, List.getD_cons_succ, Int.reduceSub, Int.reduceToNat, Int.reduceLT, or_self, or_false, false_or, not_false_eq_true, true_implies, false_implies, true_and, and_true, show ¬ (1 : Int) = 0 by omega, if_false, if_true]
      exact hA
    · simp (disch := omega) only [wp_ireturn rk_108, pg_108_21, pg_108_23, pg_108_112, pg_108_118, pg_108_156, pg_108_162, pg_108_165, pg_108_171, cw_1, cw_19, cw_52, cw_58, cw_72, cw_80, cw_136, wp_iload, wp_aload, wp_istore, wp_astore, wp_iinc, wp_iconst, wp_dup, wp_dup2, wp_pop, wp_iadd, wp_isub, wp_imul, wp_idiv, wp_irem, wp_ineg, wp_iand, wp_ior, wp_ixor, wp_ishl, wp_ishr, wp_getI, wp_putI, wp_getR, wp_goto, wp_goto_w, wq_if_eq, wq_if_ne, wq_if_lt, wq_if_ge, wq_if_gt, wq_if_le, wq_icmp_eq, wq_icmp_ne, wq_icmp_lt, wq_icmp_ge, wq_icmp_gt, wq_icmp_le, wp_max, wp_min, kI_inl, kR_some, kN_inl, kO_some, KT_none, KT_some, List.length_cons, List.length_nil, Nat.reduceAdd, Nat.reduceLT, Nat.reduceLeDiff, Nat.reduceMod, Nat.reduceDiv, true_and, and_true, Int.reduceLE, Int.reduceNeg, Int.reduceLT, Int.cast_ofNat_Int, Nat.zero_le, zI, Int.reduceAdd, Int.reduceSub, Int.reduceMul, not_true_eq_false, not_false_eq_true, false_implies, true_implies, i01_0, i01_1, ite_not, ↓reduceIte, zget_0, zget_1, zget_2, zget_3, zget_4, zget_5, zget_6, zget_7, zget_8, zget_9, zget_10, zset_0, zset_1, zset_2, zset_3, zset_4, zset_5, zset_6, zset_7, zset_8, zset_9, zset_10, kd_0, kd_1, kt_120, rf_0_0, rf_0_1, rf_0_2, rf_0_3, rf_0_4, rf_0_5, rf_0_6, rf_0_7, kd_131, kd_138, kd_164, hr, wp_switch, sw_at, List.getD_cons_zero, List.getD_cons_succ, Int.reduceSub, Int.reduceToNat, Int.reduceLT, or_self, or_false, false_or, not_false_eq_true, true_implies, false_implies, true_and, and_true, e5, show ¬ (2 : Int) = 0 by omega, show ¬ (2 : Int) = 1 by omega, if_false, if_true]
      exact hA
    · simp (disch := omega) only [wp_ireturn rk_108, pg_108_21, pg_108_23, pg_108_112, pg_108_118, pg_108_156, pg_108_162, pg_108_165, pg_108_171, cw_1, cw_19, cw_52, cw_58, cw_72, cw_80, cw_136, wp_iload, wp_aload, wp_istore, wp_astore, wp_iinc, wp_iconst, wp_dup, wp_dup2, wp_pop, wp_iadd, wp_isub, wp_imul, wp_idiv, wp_irem, wp_ineg, wp_iand, wp_ior, wp_ixor, wp_ishl, wp_ishr, wp_getI, wp_putI, wp_getR, wp_goto, wp_goto_w, wq_if_eq, wq_if_ne, wq_if_lt, wq_if_ge, wq_if_gt, wq_if_le, wq_icmp_eq, wq_icmp_ne, wq_icmp_lt, wq_icmp_ge, wq_icmp_gt, wq_icmp_le, wp_max, wp_min, kI_inl, kR_some, kN_inl, kO_some, KT_none, KT_some, List.length_cons, List.length_nil, Nat.reduceAdd, Nat.reduceLT, Nat.reduceLeDiff, Nat.reduceMod, Nat.reduceDiv, true_and, and_true, Int.reduceLE, Int.reduceNeg, Int.reduceLT, Int.cast_ofNat_Int, Nat.zero_le, zI, Int.reduceAdd, Int.reduceSub, Int.reduceMul, not_true_eq_false, not_false_eq_true, false_implies, true_implies, i01_0, i01_1, ite_not, ↓reduceIte, zget_0, zget_1, zget_2, zget_3, zget_4, zget_5, zget_6, zget_7, zget_8, zget_9, zget_10, zset_0, zset_1, zset_2, zset_3, zset_4, zset_5, zset_6, zset_7, zset_8, zset_9, zset_10, kd_0, kd_1, kt_120, rf_0_0, rf_0_1, rf_0_2, rf_0_3, rf_0_4, rf_0_5, rf_0_6, rf_0_7, kd_131, kd_138, kd_164, hr, wp_switch, sw_at, List.getD_cons_zero, List.getD_cons_succ, Int.reduceSub, Int.reduceToNat, Int.reduceLT, or_self, or_false, false_or, not_false_eq_true, true_implies, false_implies, true_and, and_true, g, or_true, show ¬ w = 0 by omega, show ¬ w = 1 by omega, show ¬ w = 2 by omega, if_false]
      exact hA
  · rw [if_neg c1]
    simp (disch := omega) only [en_108, pg_108_0, pg_108_21, wp_ireturn rk_108, wp_iload, wp_aload, wp_istore, wp_astore, wp_iinc, wp_iconst, wp_dup, wp_dup2, wp_pop, wp_iadd, wp_isub, wp_imul, wp_idiv, wp_irem, wp_ineg, wp_iand, wp_ior, wp_ixor, wp_ishl, wp_ishr, wp_getI, wp_putI, wp_getR, wp_goto, wp_goto_w, wq_if_eq, wq_if_ne, wq_if_lt, wq_if_ge, wq_if_gt, wq_if_le, wq_icmp_eq, wq_icmp_ne, wq_icmp_lt, wq_icmp_ge, wq_icmp_gt, wq_icmp_le, wp_max, wp_min, kI_inl, kR_some, kN_inl, kO_some, KT_none, KT_some, List.length_cons, List.length_nil, Nat.reduceAdd, Nat.reduceLT, Nat.reduceLeDiff, Nat.reduceMod, Nat.reduceDiv, true_and, and_true, Int.reduceLE, Int.reduceNeg, Int.reduceLT, Int.cast_ofNat_Int, Nat.zero_le, zI, Int.reduceAdd, Int.reduceSub, Int.reduceMul, not_true_eq_false, not_false_eq_true, false_implies, true_implies, i01_0, i01_1, ite_not, ↓reduceIte, zget_0, zget_1, zget_2, zget_3, zget_4, zget_5, zget_6, zget_7, zget_8, zget_9, zget_10, zset_0, zset_1, zset_2, zset_3, zset_4, zset_5, zset_6, zset_7, zset_8, zset_9, zset_10, kd_0, kd_1, kt_120, rf_0_0, rf_0_1, rf_0_2, rf_0_3, rf_0_4, rf_0_5, rf_0_6, rf_0_7, kd_131, kd_138, kd_164]
    have hA : AgB im im := fun _ _ => rfl
    by_cases q1 : a < 0
    · simp only [q1, if_true]
      exact hA
    · by_cases q2 : 1000 ≤ a
      · simp only [q1, q2, if_true, if_false]
        exact hA
      · by_cases q3 : below < 0
        · simp only [q1, q2, q3, if_true, if_false]
          exact hA
        · simp only [q1, q2, q3, show ¬ below ≤ 100 by omega, if_true, if_false]
          exact hA
end FC
