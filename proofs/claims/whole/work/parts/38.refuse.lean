/-! THE CLASS'S POWER-UP: refusing -/
section PF
variable {d s t u o : Nat} {im : zM} {Q : Option zV → zM → Prop} {a b v dv kd sl i j k f : Int}
theorem mt2_congr {x x' : zM} {c : Int → Int} {z : zSS} {p : Nat} (h : x p = x' p) (h2 : x 132 = x' 132) : mt2 x t c z p = mt2 x' t c z p := by
  simp only [mt2, sth, setc, h, h2]
theorem str_ne (im : zM) {t p : Nat} (r : zWS) (h : p ≠ t) (h1 : p ≠ t + 4) : str im t r p = im p := by
  unfold str
  rw [setc_ne _ _ h, setc_ne _ _ h1]
theorem str_t (im : zM) (t : Nat) (r : zWS) : str im t r t = ups (im t) 5 r.2 := by
  unfold str
  rw [setc_at]
theorem str_4 (im : zM) (t : Nat) (r : zWS) : str im t r (t + 4) = r.1 := by
  unfold str
  rw [setc_ne _ _ (by omega), setc_at]
theorem str_mt2 (ht : zT t) (c : Int → Int) (z : zSS) (r r' : zWS) : str (mt2 (str im t r) t c z) t r' = mt2 (str im t r') t c z := by
  have ap := zT_lt ht
  funext p
  by_cases h : p = t
  · rw [h, str_t, mt2_ne ht _ _ (by omega) (by omega), mt2_ne ht _ _ (by omega) (by omega), str_t, str_t, ups_ups]
  · by_cases h4 : p = t + 4
    · rw [h4, str_4, mt2_ne ht _ _ (by omega) (by omega), str_4]
    · rw [str_ne _ _ h h4]
      exact mt2_congr (by rw [str_ne _ _ h h4, str_ne _ _ h h4]) (by rw [str_ne _ _ (by omega) (by omega), str_ne _ _ (by omega) (by omega)])
abbrev zPS : Type := ((Int → Int) × zSS) × zWS
def mt3 (im : zM) (t : Nat) (S : zPS) : zM := mt2 (str im t S.2) t S.1.1 S.1.2
def whoS (c w : Int → Int) (n k : Int) : Int := if (lp (muf c w n k 1) n.toNat 0 (-1, 0)).1 = -1 then (lp (mlf c w n) n.toNat 0 (-1, -1)).1 else (lp (muf c w n k 1) n.toNat 0 (-1, 0)).1
def rfd (w : Int → Int) (n k : Int) (S : zPS) : zPS := (((lp (tof (whoS S.1.1 w n k)) 20 0 (S.1.1, 0)).1, S.1.2), rff (whoS S.1.1 w n k) S.2)
theorem mt3_t (ht : zT t) (S : zPS) : mt3 im t S t = ups (im t) 5 S.2.2 := by
  have ap := zT_lt ht
  unfold mt3
  rw [mt2_ne ht _ _ (by omega) (by omega), str_t]
theorem mt3_n (ht : zT t) (S : zPS) : mt3 im t S t 4 = im t 4 := by
  rw [mt3_t ht, ups_ne _ _ (by omega)]
theorem mt3_w (ht : zT t) (S : zPS) : mt3 im t S (t + 3) = im (t + 3) := by
  have ap := zT_lt ht
  unfold mt3
  rw [mt2_ne ht _ _ (by omega) (by omega), str_ne _ _ (by omega) (by omega)]
theorem mt3_s (ht : zT t) (S : zPS) : mt3 im t S (t + 2) = im (t + 2) := by
  have ap := zT_lt ht
  unfold mt3
  rw [mt2_ne ht _ _ (by omega) (by omega), str_ne _ _ (by omega) (by omega)]
theorem mt3_4 (ht : zT t) (S : zPS) : mt3 im t S (t + 4) = S.2.1 := by
  have ap := zT_lt ht
  unfold mt3
  rw [mt2_ne ht _ _ (by omega) (by omega), str_4]
theorem mt3_c (ht : zT t) (S : zPS) : mt3 im t S (t + 1) = S.1.1 := mt2_c ht _ _
theorem c_refuse3 (ht : zT t) {S : zPS} : CallP (d + 3) 79 [.inr (some t), .inl dv] (mt3 im t S) Q ↔ Q none (mt3 im t (((lp (tof dv) 20 0 (S.1.1, 0)).1, S.1.2), rff dv S.2)) := by
  rw [c_refuse ht, mt3_c ht, mt3_4 ht, mt3_t ht, ups_at]
  unfold mt3
  rw [mt2_setc ht, str_mt2 ht]
theorem l_60 (ht : zT t) {w : Int → Int} {n r : Int} {x4 : zV} {S : zPS} (hW : im (t + 3) = w) (hN : im t 4 = n) (hn : n ≤ 20) (hr : 0 ≤ r ∧ r < 100) (hb : TB S.1.1) : ∃ x4', ∀ Q, (wp none (d + 6) 19 (zpg 19 60) [.inr (some 131), .inr (some t), .inl r, .inl k, x4] [] (mt3 im t S) Q ↔ wp none (d + 6) 19 (zpg 19 19) [.inr (some 131), .inr (some t), .inl (r + 1), .inl k, x4'] [] (mt3 im t (rfd w n k S)) Q) := by
  refine ⟨.inl (lp (muf S.1.1 w n k 1) n.toNat 0 (-1, 0)).1, fun Q => ?_⟩
  have k0 := (zT_k ht).1
  have m4 := fun S => mt3_n (im := im) ht S
  have m3 := fun S => mt3_w (im := im) ht S
  have hmu := fun Q => c_mostUnits (d := d + 3) (im := mt3 im t S) (Q := Q) (kd := k) (oo := 1) ht (by rw [mt3_c ht]; exact hb) (by rw [m4, hN]; exact hn)
  have hml := fun Q => c_mostLeft (d := d + 3) (im := mt3 im t S) (Q := Q) ht (by rw [m4, hN]; exact hn)
  simp only [m4, m3, mt3_c ht, hW, hN] at hmu hml
  conv => lhs; rw [pg_19_60]
  by_cases hg : (lp (muf S.1.1 w n k 1) n.toNat 0 (-1, 0)).1 = -1
  · have e : rfd w n k S = (((lp (tof (lp (mlf S.1.1 w n) n.toNat 0 (-1, -1)).1) 20 0 (S.1.1, 0)).1, S.1.2), rff (lp (mlf S.1.1 w n) n.toNat 0 (-1, -1)).1 S.2) := by
      simp only [rfd, whoS, hg, if_true]
    rw [e]
    simp (disch := omega) only [cw_77, cw_78, cw_79, pg_19_80, pg_19_84, wp_iload, wp_aload, wp_istore, wp_astore, wp_iinc, wp_iconst, wp_dup, wp_dup2, wp_pop, wp_iadd, wp_isub, wp_imul, wp_idiv, wp_irem, wp_ineg, wp_iand, wp_ior, wp_ixor, wp_ishl, wp_ishr, wp_getI, wp_putI, wp_getR, wp_goto, wp_goto_w, wq_if_eq, wq_if_ne, wq_if_lt, wq_if_ge, wq_if_gt, wq_if_le, wq_icmp_eq, wq_icmp_ne, wq_icmp_lt, wq_icmp_ge, wq_icmp_gt, wq_icmp_le, wp_max, wp_min, kI_inl, kR_some, kN_inl, kO_some, KT_none, KT_some, List.length_cons, List.length_nil, Nat.reduceAdd, Nat.reduceLT, Nat.reduceLeDiff, Nat.reduceMod, Nat.reduceDiv, true_and, and_true, Int.reduceLE, Int.reduceNeg, Int.reduceLT, Int.cast_ofNat_Int, Nat.zero_le, zI, Int.reduceAdd, Int.reduceSub, Int.reduceMul, not_true_eq_false, not_false_eq_true, false_implies, true_implies, i01_0, i01_1, ite_not, ↓reduceIte, zget_0, zget_1, zget_2, zget_3, zget_4, zget_5, zget_6, zget_7, zget_8, zget_9, zget_10, zset_0, zset_1, zset_2, zset_3, zset_4, zset_5, zset_6, zset_7, zset_8, zset_9, zset_10, k0, hmu, hml, hg, c_refuse3 ht, if_true]
    refine (and_iff_right (by omega)).trans ?_
    exact Iff.rfl
  · have e : rfd w n k S = (((lp (tof (lp (muf S.1.1 w n k 1) n.toNat 0 (-1, 0)).1) 20 0 (S.1.1, 0)).1, S.1.2), rff (lp (muf S.1.1 w n k 1) n.toNat 0 (-1, 0)).1 S.2) := by
      simp only [rfd, whoS, hg, if_false]
    rw [e]
    simp (disch := omega) only [cw_77, cw_78, cw_79, pg_19_80, pg_19_84, wp_iload, wp_aload, wp_istore, wp_astore, wp_iinc, wp_iconst, wp_dup, wp_dup2, wp_pop, wp_iadd, wp_isub, wp_imul, wp_idiv, wp_irem, wp_ineg, wp_iand, wp_ior, wp_ixor, wp_ishl, wp_ishr, wp_getI, wp_putI, wp_getR, wp_goto, wp_goto_w, wq_if_eq, wq_if_ne, wq_if_lt, wq_if_ge, wq_if_gt, wq_if_le, wq_icmp_eq, wq_icmp_ne, wq_icmp_lt, wq_icmp_ge, wq_icmp_gt, wq_icmp_le, wp_max, wp_min, kI_inl, kR_some, kN_inl, kO_some, KT_none, KT_some, List.length_cons, List.length_nil, Nat.reduceAdd, Nat.reduceLT, Nat.reduceLeDiff, Nat.reduceMod, Nat.reduceDiv, true_and, and_true, Int.reduceLE, Int.reduceNeg, Int.reduceLT, Int.cast_ofNat_Int, Nat.zero_le, zI, Int.reduceAdd, Int.reduceSub, Int.reduceMul, not_true_eq_false, not_false_eq_true, false_implies, true_implies, i01_0, i01_1, ite_not, ↓reduceIte, zget_0, zget_1, zget_2, zget_3, zget_4, zget_5, zget_6, zget_7, zget_8, zget_9, zget_10, zset_0, zset_1, zset_2, zset_3, zset_4, zset_5, zset_6, zset_7, zset_8, zset_9, zset_10, k0, hmu, hml, hg, c_refuse3 ht, if_false]
    refine (and_iff_right (by omega)).trans ?_
    exact Iff.rfl
noncomputable def rfl' (w sp : Int → Int) (n : Int) : Nat → zPS → zPS
  | 0, S => S
  | m + 1, S => if spc sp 0 < (meas w n 0 S.1).1 then rfl' w sp n m (rfd w n 0 ((meas w n 0 S.1).2, S.2)) else if spc sp 1 < (meas w n 1 (meas w n 0 S.1).2).1 then rfl' w sp n m (rfd w n 1 ((meas w n 1 (meas w n 0 S.1).2).2, S.2)) else ((meas w n 1 (meas w n 0 S.1).2).2, S.2)
def RfOK (w sp : Int → Int) (n : Int) : Nat → zPS → Prop
  | 0, _ => True
  | m + 1, S => MsOK w n 0 n.toNat S.1 ∧ (spc sp 0 < (meas w n 0 S.1).1 → TB (meas w n 0 S.1).2.1 ∧ RfOK w sp n m (rfd w n 0 ((meas w n 0 S.1).2, S.2))) ∧ (¬ spc sp 0 < (meas w n 0 S.1).1 → MsOK w n 1 n.toNat (meas w n 0 S.1).2 ∧ (spc sp 1 < (meas w n 1 (meas w n 0 S.1).2).1 → TB (meas w n 1 (meas w n 0 S.1).2).2.1 ∧ RfOK w sp n m (rfd w n 1 ((meas w n 1 (meas w n 0 S.1).2).2, S.2))))
theorem c_meas3 (ht : zT t) {w : Int → Int} {n : Int} {S : zPS} (hW : im (t + 3) = w) (hN : im t 4 = n) (hk : 0 ≤ k ∧ k < 2) (hn : 0 ≤ n ∧ n ≤ 20) (hok : MsOK w n k n.toNat S.1) : CallP (d + 5) 21 [.inr (some 131), .inr (some t), .inl k] (mt3 im t S) Q ↔ Q (some (.inl (meas w n k S.1).1)) (mt3 im t ((meas w n k S.1).2, S.2)) := by
  have ap := zT_lt ht
  exact c_meas2 (d := d) (im := str im t S.2) (Q := Q) ht (by rw [str_ne _ _ (by omega) (by omega), hW]) (by rw [str_t, ups_ne _ _ (by omega), hN]) hk hn hok
theorem l_19 (ht : zT t) {w sp : Int → Int} {n : Int} (hS : im (t + 2) = sp) (hW : im (t + 3) = w) (hN : im t 4 = n) (hn : 0 ≤ n ∧ n ≤ 20) : ∀ (m : Nat) (r : Int) (S : zPS) (x3 x4 : zV), 0 ≤ r → r + m = 20 → RfOK w sp n m S → ∃ x2' x3' x4', ∀ Q, (wp none (d + 6) 19 (zpg 19 19) [.inr (some 131), .inr (some t), .inl r, x3, x4] [] (mt3 im t S) Q ↔ wp none (d + 6) 19 (zpg 19 93) [.inr (some 131), .inr (some t), x2', x3', x4'] [] (mt3 im t (rfl' w sp n m S)) Q)
  | 0, r, S, x3, x4, h0, h1, hok => by
    refine ⟨.inl r, x3, x4, fun Q => ?_⟩
    conv => lhs; rw [pg_19_19]
    simp (disch := omega) only [wp_iload, wp_aload, wp_istore, wp_astore, wp_iinc, wp_iconst, wp_dup, wp_dup2, wp_pop, wp_iadd, wp_isub, wp_imul, wp_idiv, wp_irem, wp_ineg, wp_iand, wp_ior, wp_ixor, wp_ishl, wp_ishr, wp_getI, wp_putI, wp_getR, wp_goto, wp_goto_w, wq_if_eq, wq_if_ne, wq_if_lt, wq_if_ge, wq_if_gt, wq_if_le, wq_icmp_eq, wq_icmp_ne, wq_icmp_lt, wq_icmp_ge, wq_icmp_gt, wq_icmp_le, wp_max, wp_min, kI_inl, kR_some, kN_inl, kO_some, KT_none, KT_some, List.length_cons, List.length_nil, Nat.reduceAdd, Nat.reduceLT, Nat.reduceLeDiff, Nat.reduceMod, Nat.reduceDiv, true_and, and_true, Int.reduceLE, Int.reduceNeg, Int.reduceLT, Int.cast_ofNat_Int, Nat.zero_le, zI, Int.reduceAdd, Int.reduceSub, Int.reduceMul, not_true_eq_false, not_false_eq_true, false_implies, true_implies, i01_0, i01_1, ite_not, ↓reduceIte, zget_0, zget_1, zget_2, zget_3, zget_4, zget_5, zget_6, zget_7, zget_8, zget_9, zget_10, zset_0, zset_1, zset_2, zset_3, zset_4, zset_5, zset_6, zset_7, zset_8, zset_9, zset_10, show 20 ≤ r by omega, if_true, rfl']
  | m + 1, r, S, x3, x4, h0, h1, hok => by
    have k0 := (zT_k ht).1
    have m2 := fun S => mt3_s (im := im) ht S
    have hM0 := fun Q => c_meas3 (d := d) (im := im) (S := S) (Q := Q) (k := 0) ht hW hN (by omega) hn hok.1
    by_cases c0 : spc sp 0 < (meas w n 0 S.1).1
    · obtain ⟨hb, hok'⟩ := hok.2.1 c0
      have ec : rfl' w sp n (m + 1) S = rfl' w sp n m (rfd w n 0 ((meas w n 0 S.1).2, S.2)) := if_pos c0
      obtain ⟨y4, h60⟩ := l_60 (d := d) (k := 0) (r := r) (x4 := x4) (S := ((meas w n 0 S.1).2, S.2)) ht hW hN hn.2 (by omega) hb
      obtain ⟨z2, z3, z4, ih⟩ := l_19 ht hS hW hN hn m (r + 1) (rfd w n 0 ((meas w n 0 S.1).2, S.2)) (.inl 0) y4 (by omega) (by omega) hok'
      refine ⟨z2, z3, z4, fun Q => ?_⟩
      rw [ec]
      refine Iff.trans ?_ (Iff.trans (h60 Q) (ih Q))
      conv => lhs; rw [pg_19_19]
      simp (disch := omega) only [cw_21, cw_57, wp_iload, wp_aload, wp_istore, wp_astore, wp_iinc, wp_iconst, wp_dup, wp_dup2, wp_pop, wp_iadd, wp_isub, wp_imul, wp_idiv, wp_irem, wp_ineg, wp_iand, wp_ior, wp_ixor, wp_ishl, wp_ishr, wp_getI, wp_putI, wp_getR, wp_goto, wp_goto_w, wq_if_eq, wq_if_ne, wq_if_lt, wq_if_ge, wq_if_gt, wq_if_le, wq_icmp_eq, wq_icmp_ne, wq_icmp_lt, wq_icmp_ge, wq_icmp_gt, wq_icmp_le, wp_max, wp_min, kI_inl, kR_some, kN_inl, kO_some, KT_none, KT_some, List.length_cons, List.length_nil, Nat.reduceAdd, Nat.reduceLT, Nat.reduceLeDiff, Nat.reduceMod, Nat.reduceDiv, true_and, and_true, Int.reduceLE, Int.reduceNeg, Int.reduceLT, Int.cast_ofNat_Int, Nat.zero_le, zI, Int.reduceAdd, Int.reduceSub, Int.reduceMul, not_true_eq_false, not_false_eq_true, false_implies, true_implies, i01_0, i01_1, ite_not, ↓reduceIte, zget_0, zget_1, zget_2, zget_3, zget_4, zget_5, zget_6, zget_7, zget_8, zget_9, zget_10, zset_0, zset_1, zset_2, zset_3, zset_4, zset_5, zset_6, zset_7, zset_8, zset_9, zset_10, kd_131, k0, show ¬ 20 ≤ r by omega, if_false]
      conv => lhs; rw [pg_19_27]
      simp (disch := omega) only [cw_21, cw_57, wp_iload, wp_aload, wp_istore, wp_astore, wp_iinc, wp_iconst, wp_dup, wp_dup2, wp_pop, wp_iadd, wp_isub, wp_imul, wp_idiv, wp_irem, wp_ineg, wp_iand, wp_ior, wp_ixor, wp_ishl, wp_ishr, wp_getI, wp_putI, wp_getR, wp_goto, wp_goto_w, wq_if_eq, wq_if_ne, wq_if_lt, wq_if_ge, wq_if_gt, wq_if_le, wq_icmp_eq, wq_icmp_ne, wq_icmp_lt, wq_icmp_ge, wq_icmp_gt, wq_icmp_le, wp_max, wp_min, kI_inl, kR_some, kN_inl, kO_some, KT_none, KT_some, List.length_cons, List.length_nil, Nat.reduceAdd, Nat.reduceLT, Nat.reduceLeDiff, Nat.reduceMod, Nat.reduceDiv, true_and, and_true, Int.reduceLE, Int.reduceNeg, Int.reduceLT, Int.cast_ofNat_Int, Nat.zero_le, zI, Int.reduceAdd, Int.reduceSub, Int.reduceMul, not_true_eq_false, not_false_eq_true, false_implies, true_implies, i01_0, i01_1, ite_not, ↓reduceIte, zget_0, zget_1, zget_2, zget_3, zget_4, zget_5, zget_6, zget_7, zget_8, zget_9, zget_10, zset_0, zset_1, zset_2, zset_3, zset_4, zset_5, zset_6, zset_7, zset_8, zset_9, zset_10, kd_131, k0, hM0, c_spaceOf ht, m2, hS, c0, if_true]
      conv => lhs; rw [pg_19_52]
      simp (disch := omega) only [wp_iload, wp_aload, wp_istore, wp_astore, wp_iinc, wp_iconst, wp_dup, wp_dup2, wp_pop, wp_iadd, wp_isub, wp_imul, wp_idiv, wp_irem, wp_ineg, wp_iand, wp_ior, wp_ixor, wp_ishl, wp_ishr, wp_getI, wp_putI, wp_getR, wp_goto, wp_goto_w, wq_if_eq, wq_if_ne, wq_if_lt, wq_if_ge, wq_if_gt, wq_if_le, wq_icmp_eq, wq_icmp_ne, wq_icmp_lt, wq_icmp_ge, wq_icmp_gt, wq_icmp_le, wp_max, wp_min, kI_inl, kR_some, kN_inl, kO_some, KT_none, KT_some, List.length_cons, List.length_nil, Nat.reduceAdd, Nat.reduceLT, Nat.reduceLeDiff, Nat.reduceMod, Nat.reduceDiv, true_and, and_true, Int.reduceLE, Int.reduceNeg, Int.reduceLT, Int.cast_ofNat_Int, Nat.zero_le, zI, Int.reduceAdd, Int.reduceSub, Int.reduceMul, not_true_eq_false, not_false_eq_true, false_implies, true_implies, i01_0, i01_1, ite_not, ↓reduceIte, zget_0, zget_1, zget_2, zget_3, zget_4, zget_5, zget_6, zget_7, zget_8, zget_9, zget_10, zset_0, zset_1, zset_2, zset_3, zset_4, zset_5, zset_6, zset_7, zset_8, zset_9, zset_10]
      simp only [show ¬ (0 : Int) = 2 by omega, if_false]
    · obtain ⟨hok1, hok2⟩ := hok.2.2 c0
      have hM1 := fun Q => c_meas3 (d := d) (im := im) (S := ((meas w n 0 S.1).2, S.2)) (Q := Q) (k := 1) ht hW hN (by omega) hn hok1
      by_cases c1 : spc sp 1 < (meas w n 1 (meas w n 0 S.1).2).1
      · obtain ⟨hb, hok'⟩ := hok2 c1
        have ec : rfl' w sp n (m + 1) S = rfl' w sp n m (rfd w n 1 ((meas w n 1 (meas w n 0 S.1).2).2, S.2)) := by
          simp only [rfl', c0, c1, if_false, if_true]
        obtain ⟨y4, h60⟩ := l_60 (d := d) (k := 1) (r := r) (x4 := x4) (S := ((meas w n 1 (meas w n 0 S.1).2).2, S.2)) ht hW hN hn.2 (by omega) hb
        obtain ⟨z2, z3, z4, ih⟩ := l_19 ht hS hW hN hn m (r + 1) (rfd w n 1 ((meas w n 1 (meas w n 0 S.1).2).2, S.2)) (.inl 1) y4 (by omega) (by omega) hok'
        refine ⟨z2, z3, z4, fun Q => ?_⟩
        rw [ec]
        refine Iff.trans ?_ (Iff.trans (h60 Q) (ih Q))
        conv => lhs; rw [pg_19_19]
        simp (disch := omega) only [cw_21, cw_57, wp_iload, wp_aload, wp_istore, wp_astore, wp_iinc, wp_iconst, wp_dup, wp_dup2, wp_pop, wp_iadd, wp_isub, wp_imul, wp_idiv, wp_irem, wp_ineg, wp_iand, wp_ior, wp_ixor, wp_ishl, wp_ishr, wp_getI, wp_putI, wp_getR, wp_goto, wp_goto_w, wq_if_eq, wq_if_ne, wq_if_lt, wq_if_ge, wq_if_gt, wq_if_le, wq_icmp_eq, wq_icmp_ne, wq_icmp_lt, wq_icmp_ge, wq_icmp_gt, wq_icmp_le, wp_max, wp_min, kI_inl, kR_some, kN_inl, kO_some, KT_none, KT_some, List.length_cons, List.length_nil, Nat.reduceAdd, Nat.reduceLT, Nat.reduceLeDiff, Nat.reduceMod, Nat.reduceDiv, true_and, and_true, Int.reduceLE, Int.reduceNeg, Int.reduceLT, Int.cast_ofNat_Int, Nat.zero_le, zI, Int.reduceAdd, Int.reduceSub, Int.reduceMul, not_true_eq_false, not_false_eq_true, false_implies, true_implies, i01_0, i01_1, ite_not, ↓reduceIte, zget_0, zget_1, zget_2, zget_3, zget_4, zget_5, zget_6, zget_7, zget_8, zget_9, zget_10, zset_0, zset_1, zset_2, zset_3, zset_4, zset_5, zset_6, zset_7, zset_8, zset_9, zset_10, kd_131, k0, show ¬ 20 ≤ r by omega, if_false]
        conv => lhs; rw [pg_19_27]
        simp (disch := omega) only [cw_21, cw_57, wp_iload, wp_aload, wp_istore, wp_astore, wp_iinc, wp_iconst, wp_dup, wp_dup2, wp_pop, wp_iadd, wp_isub, wp_imul, wp_idiv, wp_irem, wp_ineg, wp_iand, wp_ior, wp_ixor, wp_ishl, wp_ishr, wp_getI, wp_putI, wp_getR, wp_goto, wp_goto_w, wq_if_eq, wq_if_ne, wq_if_lt, wq_if_ge, wq_if_gt, wq_if_le, wq_icmp_eq, wq_icmp_ne, wq_icmp_lt, wq_icmp_ge, wq_icmp_gt, wq_icmp_le, wp_max, wp_min, kI_inl, kR_some, kN_inl, kO_some, KT_none, KT_some, List.length_cons, List.length_nil, Nat.reduceAdd, Nat.reduceLT, Nat.reduceLeDiff, Nat.reduceMod, Nat.reduceDiv, true_and, and_true, Int.reduceLE, Int.reduceNeg, Int.reduceLT, Int.cast_ofNat_Int, Nat.zero_le, zI, Int.reduceAdd, Int.reduceSub, Int.reduceMul, not_true_eq_false, not_false_eq_true, false_implies, true_implies, i01_0, i01_1, ite_not, ↓reduceIte, zget_0, zget_1, zget_2, zget_3, zget_4, zget_5, zget_6, zget_7, zget_8, zget_9, zget_10, zset_0, zset_1, zset_2, zset_3, zset_4, zset_5, zset_6, zset_7, zset_8, zset_9, zset_10, kd_131, k0, hM0, c_spaceOf ht, m2, hS, c0, if_false]
        conv => lhs; rw [pg_19_27]
        simp (disch := omega) only [cw_21, cw_57, wp_iload, wp_aload, wp_istore, wp_astore, wp_iinc, wp_iconst, wp_dup, wp_dup2, wp_pop, wp_iadd, wp_isub, wp_imul, wp_idiv, wp_irem, wp_ineg, wp_iand, wp_ior, wp_ixor, wp_ishl, wp_ishr, wp_getI, wp_putI, wp_getR, wp_goto, wp_goto_w, wq_if_eq, wq_if_ne, wq_if_lt, wq_if_ge, wq_if_gt, wq_if_le, wq_icmp_eq, wq_icmp_ne, wq_icmp_lt, wq_icmp_ge, wq_icmp_gt, wq_icmp_le, wp_max, wp_min, kI_inl, kR_some, kN_inl, kO_some, KT_none, KT_some, List.length_cons, List.length_nil, Nat.reduceAdd, Nat.reduceLT, Nat.reduceLeDiff, Nat.reduceMod, Nat.reduceDiv, true_and, and_true, Int.reduceLE, Int.reduceNeg, Int.reduceLT, Int.cast_ofNat_Int, Nat.zero_le, zI, Int.reduceAdd, Int.reduceSub, Int.reduceMul, not_true_eq_false, not_false_eq_true, false_implies, true_implies, i01_0, i01_1, ite_not, ↓reduceIte, zget_0, zget_1, zget_2, zget_3, zget_4, zget_5, zget_6, zget_7, zget_8, zget_9, zget_10, zset_0, zset_1, zset_2, zset_3, zset_4, zset_5, zset_6, zset_7, zset_8, zset_9, zset_10, kd_131, k0, hM1, c_spaceOf ht, m2, hS, c1, if_true]
        conv => lhs; rw [pg_19_52]
        simp (disch := omega) only [wp_iload, wp_aload, wp_istore, wp_astore, wp_iinc, wp_iconst, wp_dup, wp_dup2, wp_pop, wp_iadd, wp_isub, wp_imul, wp_idiv, wp_irem, wp_ineg, wp_iand, wp_ior, wp_ixor, wp_ishl, wp_ishr, wp_getI, wp_putI, wp_getR, wp_goto, wp_goto_w, wq_if_eq, wq_if_ne, wq_if_lt, wq_if_ge, wq_if_gt, wq_if_le, wq_icmp_eq, wq_icmp_ne, wq_icmp_lt, wq_icmp_ge, wq_icmp_gt, wq_icmp_le, wp_max, wp_min, kI_inl, kR_some, kN_inl, kO_some, KT_none, KT_some, List.length_cons, List.length_nil, Nat.reduceAdd, Nat.reduceLT, Nat.reduceLeDiff, Nat.reduceMod, Nat.reduceDiv, true_and, and_true, Int.reduceLE, Int.reduceNeg, Int.reduceLT, Int.cast_ofNat_Int, Nat.zero_le, zI, Int.reduceAdd, Int.reduceSub, Int.reduceMul, not_true_eq_false, not_false_eq_true, false_implies, true_implies, i01_0, i01_1, ite_not, ↓reduceIte, zget_0, zget_1, zget_2, zget_3, zget_4, zget_5, zget_6, zget_7, zget_8, zget_9, zget_10, zset_0, zset_1, zset_2, zset_3, zset_4, zset_5, zset_6, zset_7, zset_8, zset_9, zset_10]
        simp only [show ¬ (1 : Int) = 2 by omega, if_false]
      · have ec : rfl' w sp n (m + 1) S = ((meas w n 1 (meas w n 0 S.1).2).2, S.2) := by
          simp only [rfl', c0, c1, if_false]
        refine ⟨.inl r, .inl 2, x4, fun Q => ?_⟩
        rw [ec]
        conv => lhs; rw [pg_19_19]
        simp (disch := omega) only [cw_21, cw_57, wp_iload, wp_aload, wp_istore, wp_astore, wp_iinc, wp_iconst, wp_dup, wp_dup2, wp_pop, wp_iadd, wp_isub, wp_imul, wp_idiv, wp_irem, wp_ineg, wp_iand, wp_ior, wp_ixor, wp_ishl, wp_ishr, wp_getI, wp_putI, wp_getR, wp_goto, wp_goto_w, wq_if_eq, wq_if_ne, wq_if_lt, wq_if_ge, wq_if_gt, wq_if_le, wq_icmp_eq, wq_icmp_ne, wq_icmp_lt, wq_icmp_ge, wq_icmp_gt, wq_icmp_le, wp_max, wp_min, kI_inl, kR_some, kN_inl, kO_some, KT_none, KT_some, List.length_cons, List.length_nil, Nat.reduceAdd, Nat.reduceLT, Nat.reduceLeDiff, Nat.reduceMod, Nat.reduceDiv, true_and, and_true, Int.reduceLE, Int.reduceNeg, Int.reduceLT, Int.cast_ofNat_Int, Nat.zero_le, zI, Int.reduceAdd, Int.reduceSub, Int.reduceMul, not_true_eq_false, not_false_eq_true, false_implies, true_implies, i01_0, i01_1, ite_not, ↓reduceIte, zget_0, zget_1, zget_2, zget_3, zget_4, zget_5, zget_6, zget_7, zget_8, zget_9, zget_10, zset_0, zset_1, zset_2, zset_3, zset_4, zset_5, zset_6, zset_7, zset_8, zset_9, zset_10, kd_131, k0, show ¬ 20 ≤ r by omega, if_false]
        conv => lhs; rw [pg_19_27]
        simp (disch := omega) only [cw_21, cw_57, wp_iload, wp_aload, wp_istore, wp_astore, wp_iinc, wp_iconst, wp_dup, wp_dup2, wp_pop, wp_iadd, wp_isub, wp_imul, wp_idiv, wp_irem, wp_ineg, wp_iand, wp_ior, wp_ixor, wp_ishl, wp_ishr, wp_getI, wp_putI, wp_getR, wp_goto, wp_goto_w, wq_if_eq, wq_if_ne, wq_if_lt, wq_if_ge, wq_if_gt, wq_if_le, wq_icmp_eq, wq_icmp_ne, wq_icmp_lt, wq_icmp_ge, wq_icmp_gt, wq_icmp_le, wp_max, wp_min, kI_inl, kR_some, kN_inl, kO_some, KT_none, KT_some, List.length_cons, List.length_nil, Nat.reduceAdd, Nat.reduceLT, Nat.reduceLeDiff, Nat.reduceMod, Nat.reduceDiv, true_and, and_true, Int.reduceLE, Int.reduceNeg, Int.reduceLT, Int.cast_ofNat_Int, Nat.zero_le, zI, Int.reduceAdd, Int.reduceSub, Int.reduceMul, not_true_eq_false, not_false_eq_true, false_implies, true_implies, i01_0, i01_1, ite_not, ↓reduceIte, zget_0, zget_1, zget_2, zget_3, zget_4, zget_5, zget_6, zget_7, zget_8, zget_9, zget_10, zset_0, zset_1, zset_2, zset_3, zset_4, zset_5, zset_6, zset_7, zset_8, zset_9, zset_10, kd_131, k0, hM0, c_spaceOf ht, m2, hS, c0, if_false]
        conv => lhs; rw [pg_19_27]
        simp (disch := omega) only [cw_21, cw_57, wp_iload, wp_aload, wp_istore, wp_astore, wp_iinc, wp_iconst, wp_dup, wp_dup2, wp_pop, wp_iadd, wp_isub, wp_imul, wp_idiv, wp_irem, wp_ineg, wp_iand, wp_ior, wp_ixor, wp_ishl, wp_ishr, wp_getI, wp_putI, wp_getR, wp_goto, wp_goto_w, wq_if_eq, wq_if_ne, wq_if_lt, wq_if_ge, wq_if_gt, wq_if_le, wq_icmp_eq, wq_icmp_ne, wq_icmp_lt, wq_icmp_ge, wq_icmp_gt, wq_icmp_le, wp_max, wp_min, kI_inl, kR_some, kN_inl, kO_some, KT_none, KT_some, List.length_cons, List.length_nil, Nat.reduceAdd, Nat.reduceLT, Nat.reduceLeDiff, Nat.reduceMod, Nat.reduceDiv, true_and, and_true, Int.reduceLE, Int.reduceNeg, Int.reduceLT, Int.cast_ofNat_Int, Nat.zero_le, zI, Int.reduceAdd, Int.reduceSub, Int.reduceMul, not_true_eq_false, not_false_eq_true, false_implies, true_implies, i01_0, i01_1, ite_not, ↓reduceIte, zget_0, zget_1, zget_2, zget_3, zget_4, zget_5, zget_6, zget_7, zget_8, zget_9, zget_10, zset_0, zset_1, zset_2, zset_3, zset_4, zset_5, zset_6, zset_7, zset_8, zset_9, zset_10, kd_131, k0, hM1, c_spaceOf ht, m2, hS, c1, if_false]
        conv => lhs; rw [pg_19_27]
        simp (disch := omega) only [wp_iload, wp_aload, wp_istore, wp_astore, wp_iinc, wp_iconst, wp_dup, wp_dup2, wp_pop, wp_iadd, wp_isub, wp_imul, wp_idiv, wp_irem, wp_ineg, wp_iand, wp_ior, wp_ixor, wp_ishl, wp_ishr, wp_getI, wp_putI, wp_getR, wp_goto, wp_goto_w, wq_if_eq, wq_if_ne, wq_if_lt, wq_if_ge, wq_if_gt, wq_if_le, wq_icmp_eq, wq_icmp_ne, wq_icmp_lt, wq_icmp_ge, wq_icmp_gt, wq_icmp_le, wp_max, wp_min, kI_inl, kR_some, kN_inl, kO_some, KT_none, KT_some, List.length_cons, List.length_nil, Nat.reduceAdd, Nat.reduceLT, Nat.reduceLeDiff, Nat.reduceMod, Nat.reduceDiv, true_and, and_true, Int.reduceLE, Int.reduceNeg, Int.reduceLT, Int.cast_ofNat_Int, Nat.zero_le, zI, Int.reduceAdd, Int.reduceSub, Int.reduceMul, not_true_eq_false, not_false_eq_true, false_implies, true_implies, i01_0, i01_1, ite_not, ↓reduceIte, zget_0, zget_1, zget_2, zget_3, zget_4, zget_5, zget_6, zget_7, zget_8, zget_9, zget_10, zset_0, zset_1, zset_2, zset_3, zset_4, zset_5, zset_6, zset_7, zset_8, zset_9, zset_10]
        conv => lhs; rw [pg_19_52]
        simp (disch := omega) only [wp_iload, wp_aload, wp_istore, wp_astore, wp_iinc, wp_iconst, wp_dup, wp_dup2, wp_pop, wp_iadd, wp_isub, wp_imul, wp_idiv, wp_irem, wp_ineg, wp_iand, wp_ior, wp_ixor, wp_ishl, wp_ishr, wp_getI, wp_putI, wp_getR, wp_goto, wp_goto_w, wq_if_eq, wq_if_ne, wq_if_lt, wq_if_ge, wq_if_gt, wq_if_le, wq_icmp_eq, wq_icmp_ne, wq_icmp_lt, wq_icmp_ge, wq_icmp_gt, wq_icmp_le, wp_max, wp_min, kI_inl, kR_some, kN_inl, kO_some, KT_none, KT_some, List.length_cons, List.length_nil, Nat.reduceAdd, Nat.reduceLT, Nat.reduceLeDiff, Nat.reduceMod, Nat.reduceDiv, true_and, and_true, Int.reduceLE, Int.reduceNeg, Int.reduceLT, Int.cast_ofNat_Int, Nat.zero_le, zI, Int.reduceAdd, Int.reduceSub, Int.reduceMul, not_true_eq_false, not_false_eq_true, false_implies, true_implies, i01_0, i01_1, ite_not, ↓reduceIte, zget_0, zget_1, zget_2, zget_3, zget_4, zget_5, zget_6, zget_7, zget_8, zget_9, zget_10, zset_0, zset_1, zset_2, zset_3, zset_4, zset_5, zset_6, zset_7, zset_8, zset_9, zset_10]
theorem mt2_of (ht : zT t) {X : zM} {c : Int → Int} (h : gsh X 132 = gsh im 132) : setc X (t + 1) c = mt2 X t c (gsh im 132) := by
  have ap := zT_lt ht
  have e : gsh (setc X (t + 1) c) 132 = gsh im 132 := by
    rw [← h]
    unfold gsh
    simp (disch := omega) only [setc_ne]
  unfold mt2
  rw [← e, sth_gsh]
noncomputable def runC (im : zM) (t : Nat) : Int → Int := lp offf 20 0 (im (t + 1))
noncomputable def run0 (im : zM) (t : Nat) : zPS := (((nbS (im (t + 3)) (im t 4) 5 (-1) 1 (runC im t)).2, gsh im 132), (im (t + 4), 0))
noncomputable def run1 (im : zM) (t : Nat) : zPS := rfl' (im (t + 3)) (im (t + 2)) (im t 4) 20 (run0 im t)
noncomputable def run2 (im : zM) (t : Nat) : zPS := (lyk (im (t + 3)) (im t 4) 1 (lyk (im (t + 3)) (im t 4) 0 (run1 im t).1), (run1 im t).2)
def RunOK (im : zM) (t : Nat) : Prop := NB (runC im t) ∧ RfOK (im (t + 3)) (im (t + 2)) (im t 4) 20 (run0 im t) ∧ LkOK (im (t + 3)) (im t 4) 0 (run1 im t).1 ∧ LkOK (im (t + 3)) (im t 4) 1 (lyk (im (t + 3)) (im t 4) 0 (run1 im t).1)
theorem c_run (ht : zT t) (hn : 0 ≤ im t 4 ∧ im t 4 ≤ 20) (hok : RunOK im t) : CallP (d + 8) 19 [.inr (some 131), .inr (some t)] im Q ↔ Q none (mt3 im t (run2 im t)) := by
  have k0 := (zT_k ht).1
  have ap := zT_lt ht
  obtain ⟨o1, o2, o3, o4⟩ := hok
  have q3 : str im t (im (t + 4), 0) (t + 3) = im (t + 3) := str_ne _ _ (by omega) (by omega)
  have q4 : str im t (im (t + 4), 0) t 4 = im t 4 := by rw [str_t, ups_ne _ _ (by omega)]
  have qg : gsh (str im t (im (t + 4), 0)) 132 = gsh im 132 := by
    unfold gsh
    simp (disch := omega) only [str_ne]
  have es : zu (setc im (t + 1) (runC im t)) t 5 0 = setc (str im t (im (t + 4), 0)) (t + 1) (runC im t) := by
    rw [zu_setc, setc_ne _ _ (by omega), setc_comm _ _ _ (by omega)]
    unfold str
    rw [setc_self]
  have hnum := c_numberBus (d := d) (im := str im t (im (t + 4), 0)) ht q3 q4 hn.2 5 0 (-1) 1 (runC im t) (by omega) (by omega) (by omega) (by omega) o1
  have htu := fun Q => c_turnAllOff (d := d + 5) (im := im) (Q := Q) ht
  have hm : setc (str im t (im (t + 4), 0)) (t + 1) (nbS (im (t + 3)) (im t 4) 5 (-1) 1 (runC im t)).2 = mt3 im t (run0 im t) := mt2_of ht qg
  have hm2 := hnum.1
  rw [hm] at hm2
  obtain ⟨z2, z3, z4, h19⟩ := l_19 (d := d + 2) (im := im) ht rfl rfl rfl hn 20 0 (run0 im t) (.inr none) (.inr none) (by omega) (by omega) o2
  have h93 := fun Q => l_run93 (d := d + 2) (im := str im t (run1 im t).2) (x2 := z2) (x3 := z3) (x4 := z4) ht (w := im (t + 3)) (n := im t 4) (str_ne _ _ (by omega) (by omega)) (by rw [str_t, ups_ne _ _ (by omega)]) hn.2 (run1 im t).1 o3 o4 Q
  have e19 := fun Q => (h19 Q).trans (h93 Q)
  clear h19 h93 hnum
  have htu' : ∀ Q, CallP (d + 7) 74 [.inr (some t)] im Q ↔ Q none (setc im (t + 1) (runC im t)) := htu
  simp (disch := omega) only [en_19, pg_19_0, cw_74, cw_20, wp_putI, wp_iload, wp_aload, wp_istore, wp_astore, wp_iinc, wp_iconst, wp_dup, wp_dup2, wp_pop, wp_iadd, wp_isub, wp_imul, wp_idiv, wp_irem, wp_ineg, wp_iand, wp_ior, wp_ixor, wp_ishl, wp_ishr, wp_getI, wp_putI, wp_getR, wp_goto, wp_goto_w, wq_if_eq, wq_if_ne, wq_if_lt, wq_if_ge, wq_if_gt, wq_if_le, wq_icmp_eq, wq_icmp_ne, wq_icmp_lt, wq_icmp_ge, wq_icmp_gt, wq_icmp_le, wp_max, wp_min, kI_inl, kR_some, kN_inl, kO_some, KT_none, KT_some, List.length_cons, List.length_nil, Nat.reduceAdd, Nat.reduceLT, Nat.reduceLeDiff, Nat.reduceMod, Nat.reduceDiv, true_and, and_true, Int.reduceLE, Int.reduceNeg, Int.reduceLT, Int.cast_ofNat_Int, Nat.zero_le, zI, Int.reduceAdd, Int.reduceSub, Int.reduceMul, not_true_eq_false, not_false_eq_true, false_implies, true_implies, i01_0, i01_1, ite_not, ↓reduceIte, zget_0, zget_1, zget_2, zget_3, zget_4, zget_5, zget_6, zget_7, zget_8, zget_9, zget_10, zset_0, zset_1, zset_2, zset_3, zset_4, zset_5, zset_6, zset_7, zset_8, zset_9, zset_10, k0, htu', es, hm2]
  exact e19 Q
end PF
