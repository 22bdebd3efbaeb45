/-! THE CLASS'S FACE: acts, what is there -/
section FA
variable {d s t u o : Nat} {im : zM} {Q : Option zV → zM → Prop} {a b v dv kd sl i j k f : Int}
theorem sw_at {l : List Int} {k : Nat} {x : Int} : (l.toArray).getD k x = l.getD k x := by
  simp [Array.getD_eq_getD_getElem?, List.getD_eq_getElem?_getD]
def HH (im : zM) : Prop := (0 ≤ im 1 1 ∧ im 1 1 < 21) ∧ (0 ≤ im 1 2 ∧ im 1 2 ≤ 20) ∧ (0 ≤ im 1 3 ∧ im 1 3 ≤ 20)
theorem HH_of {im' : zM} (h : HH im) (e : im' 1 = im 1) : HH im' := by
  unfold HH
  rw [e]
  exact h
theorem zT_120 : zT 120 := by decide
theorem kt_120 : K0[120]? = some (8, 0) := (zT_k zT_120).1
theorem nowT_lt (h : 0 ≤ a ∧ a < 21) : nowT a + 4 < 108 := by
  unfold nowT
  omega
theorem nowT_gt (h : 0 ≤ a ∧ a < 21) : 3 ≤ nowT a := by
  unfold nowT
  omega
theorem cpt_ne {p : Nat} (h : p < t ∨ t + 4 < p) : cpt im t u p = im p := by
  unfold cpt
  simp (disch := omega) only [setc_ne]
def trl (im : zM) : zM := cpt im 120 (nowT (im 1 1))
theorem trl_ne {p : Nat} (h : p < 120 ∨ 124 < p) : trl im p = im p := cpt_ne h
theorem c_copyOfNow (h : HH im) : CallP (d + 1) 136 [.inr (some 0)] im Q ↔ Q (some (.inr (some 120))) (trl im) := by
  have hn := fun Q => c_now (d := d) (im := im) (Q := Q) h.1
  have hc := fun im Q => c_copy (d := d) (im := im) (Q := Q) zT_120 (nowT_z h.1) (by have := nowT_lt h.1; omega)
  simp (disch := omega) only [en_136, wp_areturn rk_136, pg_136_0, cw_1, cw_48, wp_iload, wp_aload, wp_istore, wp_astore, wp_iinc, wp_iconst, wp_dup, wp_dup2, wp_pop, wp_iadd, wp_isub, wp_imul, wp_idiv, wp_irem, wp_ineg, wp_iand, wp_ior, wp_ixor, wp_ishl, wp_ishr, wp_getI, wp_putI, wp_getR, wp_goto, wp_goto_w, wq_if_eq, wq_if_ne, wq_if_lt, wq_if_ge, wq_if_gt, wq_if_le, wq_icmp_eq, wq_icmp_ne, wq_icmp_lt, wq_icmp_ge, wq_icmp_gt, wq_icmp_le, wp_max, wp_min, kI_inl, kR_some, kN_inl, kO_some, KT_none, KT_some, List.length_cons, List.length_nil, Nat.reduceAdd, Nat.reduceLT, Nat.reduceLeDiff, Nat.reduceMod, Nat.reduceDiv, true_and, and_true, Int.reduceLE, Int.reduceNeg, Int.reduceLT, Int.cast_ofNat_Int, Nat.zero_le, zI, Int.reduceAdd, Int.reduceSub, Int.reduceMul, not_true_eq_false, not_false_eq_true, false_implies, true_implies, i01_0, i01_1, ite_not, ↓reduceIte, zget_0, zget_1, zget_2, zget_3, zget_4, zget_5, zget_6, zget_7, zget_8, zget_9, zget_10, zset_0, zset_1, zset_2, zset_3, zset_4, zset_5, zset_6, zset_7, zset_8, zset_9, zset_10, kd_0, kd_1, kt_120, (zT_k (nowT_z h.1)).1, rf_0_0, rf_0_3, hn, hc, trl]
theorem c_isKind : CallP d 137 [.inl k] im Q ↔ Q (some (.inl (if 0 ≤ k ∧ k < 2 then 1 else 0))) im := by
  simp (disch := omega) only [en_137, wp_zreturn rk_137, pg_137_0, pg_137_13, pg_137_14, wp_iload, wp_aload, wp_istore, wp_astore, wp_iinc, wp_iconst, wp_dup, wp_dup2, wp_pop, wp_iadd, wp_isub, wp_imul, wp_idiv, wp_irem, wp_ineg, wp_iand, wp_ior, wp_ixor, wp_ishl, wp_ishr, wp_getI, wp_putI, wp_getR, wp_goto, wp_goto_w, wq_if_eq, wq_if_ne, wq_if_lt, wq_if_ge, wq_if_gt, wq_if_le, wq_icmp_eq, wq_icmp_ne, wq_icmp_lt, wq_icmp_ge, wq_icmp_gt, wq_icmp_le, wp_max, wp_min, kI_inl, kR_some, kN_inl, kO_some, KT_none, KT_some, List.length_cons, List.length_nil, Nat.reduceAdd, Nat.reduceLT, Nat.reduceLeDiff, Nat.reduceMod, Nat.reduceDiv, true_and, and_true, Int.reduceLE, Int.reduceNeg, Int.reduceLT, Int.cast_ofNat_Int, Nat.zero_le, zI, Int.reduceAdd, Int.reduceSub, Int.reduceMul, not_true_eq_false, not_false_eq_true, false_implies, true_implies, i01_0, i01_1, ite_not, ↓reduceIte, zget_0, zget_1, zget_2, zget_3, zget_4, zget_5, zget_6, zget_7, zget_8, zget_9, zget_10, zset_0, zset_1, zset_2, zset_3, zset_4, zset_5, zset_6, zset_7, zset_8, zset_9, zset_10]
  grind
theorem c_isExponent : CallP d 138 [.inl k] im Q ↔ Q (some (.inl (if 0 ≤ k ∧ k ≤ 8 then 1 else 0))) im := by
  simp (disch := omega) only [en_138, wp_zreturn rk_138, pg_138_0, pg_138_14, pg_138_15, wp_iload, wp_aload, wp_istore, wp_astore, wp_iinc, wp_iconst, wp_dup, wp_dup2, wp_pop, wp_iadd, wp_isub, wp_imul, wp_idiv, wp_irem, wp_ineg, wp_iand, wp_ior, wp_ixor, wp_ishl, wp_ishr, wp_getI, wp_putI, wp_getR, wp_goto, wp_goto_w, wq_if_eq, wq_if_ne, wq_if_lt, wq_if_ge, wq_if_gt, wq_if_le, wq_icmp_eq, wq_icmp_ne, wq_icmp_lt, wq_icmp_ge, wq_icmp_gt, wq_icmp_le, wp_max, wp_min, kI_inl, kR_some, kN_inl, kO_some, KT_none, KT_some, List.length_cons, List.length_nil, Nat.reduceAdd, Nat.reduceLT, Nat.reduceLeDiff, Nat.reduceMod, Nat.reduceDiv, true_and, and_true, Int.reduceLE, Int.reduceNeg, Int.reduceLT, Int.cast_ofNat_Int, Nat.zero_le, zI, Int.reduceAdd, Int.reduceSub, Int.reduceMul, not_true_eq_false, not_false_eq_true, false_implies, true_implies, i01_0, i01_1, ite_not, ↓reduceIte, zget_0, zget_1, zget_2, zget_3, zget_4, zget_5, zget_6, zget_7, zget_8, zget_9, zget_10, zset_0, zset_1, zset_2, zset_3, zset_4, zset_5, zset_6, zset_7, zset_8, zset_9, zset_10]
  grind
noncomputable def kp (im : zM) : zM := setc (cpt im (nowT ((im 1 1 + 1) % 21)) 120) 1 (ups (ups (ups (im 1) 1 ((im 1 1 + 1) % 21)) 2 (min (im 1 2 + 1) 20)) 3 0)
theorem c_kp (h : HH im) : CallP (d + 1) 2 [.inr (some 1), .inr (some 120)] im Q ↔ Q none (kp im) :=
  c_keep h.1 h.2.1 zT_120 (by
    have := nowT_lt (a := (im 1 1 + 1) % 21) (by have := h.1; omega)
    omega)
theorem c_kpH {X : zM} (h : HH im) (e : X 1 = im 1) : CallP (d + 1) 2 [.inr (some 1), .inr (some 120)] X Q ↔ Q none (kp X) := c_kp (HH_of h e)
theorem c_setM (ht : zT t) : CallP d 50 [.inr (some t), .inl dv, .inl f, .inl v] im Q ↔ Q none (setc im (t + 1) (stc (im (t + 1)) dv f v)) := by
  rw [c_set ht]
  unfold stc
  split
  · rw [zu_setc]
  · rw [setc_self]
theorem stw_ne {r : zWS} {p : Nat} (h : p ≠ t) (h1 : p ≠ t + 3) : stw im t r p = im p := by
  unfold stw
  rw [setc_ne _ _ h, setc_ne _ _ h1]
/-- the trial tree after a device was plugged in -/
noncomputable def pln (X : zM) (dv ty a sl : Int) : zM := stw (setc X 121 (plgc (X 121) dv ty a sl)) 120 (wkb (plgc (X 121) dv ty a sl) 5 (-1) (X 123, 0))
theorem pln_ne {p : Nat} {dv ty a sl : Int} (h : p < 120 ∨ 124 < p) : pln im dv ty a sl p = im p := by
  unfold pln
  rw [stw_ne (by omega) (by omega), setc_ne _ _ (by omega)]
theorem pln_c {dv ty a sl : Int} : pln im dv ty a sl 121 = plgc (im 121) dv ty a sl := by
  unfold pln
  rw [stw_ne (by omega) (by omega), setc_at]
theorem c_plugM {ty : Int} (hd : 0 ≤ dv ∧ dv < 20) : CallP (d + 9) 70 [.inr (some 120), .inl dv, .inl ty, .inl a, .inl sl] im Q ↔ Q none (pln im dv ty a sl) := c_plug zT_120 hd
/-- a free device for a place, or -1 -/
def frD (c : Int → Int) (a sl : Int) : Int := if (a = -1 ∨ gt c a 0 = 2) ∧ 0 ≤ sl ∧ sl < 8 ∧ ff (plgB c a sl) 20 0 = -1 ∧ dpf c 5 a ≤ 4 then ff (vacB c) 20 0 else -1
theorem c_plugIn (h : HH im) {ty nu un : Int} : CallP (d + 10) 87 [.inr (some 0), .inl ty, .inl a, .inl sl, .inl nu, .inl un] im Q ↔ if frD (trl im 121) a sl = -1 then Q (some (.inl (-1))) (trl im) else Q (some (.inl (frD (trl im 121) a sl))) (kp (setc (pln (trl im) (frD (trl im 121) a sl) ty a sl) 121 (stc (stc (plgc (trl im 121) (frD (trl im 121) a sl) ty a sl) (frD (trl im 121) a sl) 4 nu) (frD (trl im 121) a sl) 5 un))) := by
  have hc := fun Q => c_copyOfNow (d := d + 8) (im := im) (Q := Q) h
  have e1 : trl im 1 = im 1 := trl_ne (by omega)
  have hv := fun Q => c_lowestVacant (d := d + 7) (im := trl im) (Q := Q) zT_120
  have ht := fun Q => c_takes (d := d + 6) (im := trl im) (a := a) (sl := sl) (v := 0) (Q := Q) zT_120 (by omega)
  have hpl := fun (X : zM) (dv : Int) Q (q : 0 ≤ dv ∧ dv < 20) => c_plugM (d := d) (im := X) (a := a) (sl := sl) (ty := ty) (Q := Q) (dv := dv) q
  have hk := fun (X : zM) Q (e : X 1 = im 1) => c_kpH (d := d + 8) (im := im) (X := X) (Q := Q) h e
  have hs := fun (X : zM) (dv f v : Int) Q => c_setM (d := d + 9) (im := X) (t := 120) (dv := dv) (f := f) (v := v) (Q := Q) zT_120
  have hff := ff_cases (vacB (trl im 121)) 20 0
  have em : ∀ X (c : Int → Int), setc X 121 c 1 = X 1 := fun X c => setc_ne _ _ (by omega)
  have ep : ∀ X dv ty a sl, pln X dv ty a sl 1 = X 1 := fun X dv ty a sl => pln_ne (by omega)
  simp (disch := omega) only [en_87, wp_ireturn rk_87, pg_87_0, pg_87_30, pg_87_32, cw_2, cw_50, cw_65, cw_69, cw_70, cw_136, wp_iload, wp_aload, wp_istore, wp_astore, wp_iinc, wp_iconst, wp_dup, wp_dup2, wp_pop, wp_iadd, wp_isub, wp_imul, wp_idiv, wp_irem, wp_ineg, wp_iand, wp_ior, wp_ixor, wp_ishl, wp_ishr, wp_getI, wp_putI, wp_getR, wp_goto, wp_goto_w, wq_if_eq, wq_if_ne, wq_if_lt, wq_if_ge, wq_if_gt, wq_if_le, wq_icmp_eq, wq_icmp_ne, wq_icmp_lt, wq_icmp_ge, wq_icmp_gt, wq_icmp_le, wp_max, wp_min, kI_inl, kR_some, kN_inl, kO_some, KT_none, KT_some, List.length_cons, List.length_nil, Nat.reduceAdd, Nat.reduceLT, Nat.reduceLeDiff, Nat.reduceMod, Nat.reduceDiv, true_and, and_true, Int.reduceLE, Int.reduceNeg, Int.reduceLT, Int.cast_ofNat_Int, Nat.zero_le, zI, Int.reduceAdd, Int.reduceSub, Int.reduceMul, not_true_eq_false, not_false_eq_true, false_implies, true_implies, i01_0, i01_1, ite_not, ↓reduceIte, zget_0, zget_1, zget_2, zget_3, zget_4, zget_5, zget_6, zget_7, zget_8, zget_9, zget_10, zset_0, zset_1, zset_2, zset_3, zset_4, zset_5, zset_6, zset_7, zset_8, zset_9, zset_10, kd_0, kd_1, kt_120, rf_0_0, rf_0_1, rf_0_2, rf_0_3, rf_0_4, rf_0_5, rf_0_6, rf_0_7, kd_131, kd_138, kd_164, hc, hv, ht, Int.add_zero]
  simp only [frD]
  by_cases c1 : (a = -1 ∨ gt (trl im 121) a 0 = 2) ∧ 0 ≤ sl ∧ sl < 8 ∧ ff (plgB (trl im 121) a sl) 20 0 = -1 ∧ dpf (trl im 121) 5 a ≤ 4
  · by_cases c2 : ff (vacB (trl im 121)) 20 0 = -1
    · simp only [c2, if_true, ite_self]
    · simp only [if_pos c1, if_neg c2, show ¬ (1 : Int) = 0 by omega, not_false_eq_true, not_true_eq_false, if_true, if_false]
      simp (disch := first | omega | (simp only [em, ep, e1])) only [wp_ireturn rk_87, pg_87_30, pg_87_32, cw_2, cw_50, cw_65, cw_69, cw_70, cw_136, wp_iload, wp_aload, wp_istore, wp_astore, wp_iinc, wp_iconst, wp_dup, wp_dup2, wp_pop, wp_iadd, wp_isub, wp_imul, wp_idiv, wp_irem, wp_ineg, wp_iand, wp_ior, wp_ixor, wp_ishl, wp_ishr, wp_getI, wp_putI, wp_getR, wp_goto, wp_goto_w, wq_if_eq, wq_if_ne, wq_if_lt, wq_if_ge, wq_if_gt, wq_if_le, wq_icmp_eq, wq_icmp_ne, wq_icmp_lt, wq_icmp_ge, wq_icmp_gt, wq_icmp_le, wp_max, wp_min, kI_inl, kR_some, kN_inl, kO_some, KT_none, KT_some, List.length_cons, List.length_nil, Nat.reduceAdd, Nat.reduceLT, Nat.reduceLeDiff, Nat.reduceMod, Nat.reduceDiv, true_and, and_true, Int.reduceLE, Int.reduceNeg, Int.reduceLT, Int.cast_ofNat_Int, Nat.zero_le, zI, Int.reduceAdd, Int.reduceSub, Int.reduceMul, not_true_eq_false, not_false_eq_true, false_implies, true_implies, i01_0, i01_1, ite_not, ↓reduceIte, zget_0, zget_1, zget_2, zget_3, zget_4, zget_5, zget_6, zget_7, zget_8, zget_9, zget_10, zset_0, zset_1, zset_2, zset_3, zset_4, zset_5, zset_6, zset_7, zset_8, zset_9, zset_10, hpl, hs, hk, pln_c, setc_at, setc_setc, kd_0, kd_1, kt_120, rf_0_0, rf_0_1, rf_0_2, rf_0_3, rf_0_4, rf_0_5, rf_0_6, rf_0_7, kd_131, kd_138, kd_164]
  · by_cases c2 : ff (vacB (trl im 121)) 20 0 = -1
    · simp only [c2, if_true, ite_self]
    · simp only [if_neg c1, if_neg c2, if_true, not_true_eq_false, if_false, ite_self, show (0 : Int) = 0 from rfl]
theorem c_endpoint (h : HH im) : CallP (d + 11) 85 [.inr (some 0), .inl a, .inl sl] im Q ↔ if frD (trl im 121) a sl = -1 then Q (some (.inl (-1))) (trl im) else Q (some (.inl (frD (trl im 121) a sl))) (kp (setc (pln (trl im) (frD (trl im 121) a sl) 1 a sl) 121 (stc (stc (plgc (trl im 121) (frD (trl im 121) a sl) 1 a sl) (frD (trl im 121) a sl) 4 0) (frD (trl im 121) a sl) 5 0))) := by
  have hp := fun Q => c_plugIn (d := d) (im := im) (a := a) (sl := sl) (ty := 1) (nu := 0) (un := 0) (Q := Q) h
  simp (disch := omega) only [en_85, wp_ireturn rk_85, pg_85_0, cw_87, wp_iload, wp_aload, wp_istore, wp_astore, wp_iinc, wp_iconst, wp_dup, wp_dup2, wp_pop, wp_iadd, wp_isub, wp_imul, wp_idiv, wp_irem, wp_ineg, wp_iand, wp_ior, wp_ixor, wp_ishl, wp_ishr, wp_getI, wp_putI, wp_getR, wp_goto, wp_goto_w, wq_if_eq, wq_if_ne, wq_if_lt, wq_if_ge, wq_if_gt, wq_if_le, wq_icmp_eq, wq_icmp_ne, wq_icmp_lt, wq_icmp_ge, wq_icmp_gt, wq_icmp_le, wp_max, wp_min, kI_inl, kR_some, kN_inl, kO_some, KT_none, KT_some, List.length_cons, List.length_nil, Nat.reduceAdd, Nat.reduceLT, Nat.reduceLeDiff, Nat.reduceMod, Nat.reduceDiv, true_and, and_true, Int.reduceLE, Int.reduceNeg, Int.reduceLT, Int.cast_ofNat_Int, Nat.zero_le, zI, Int.reduceAdd, Int.reduceSub, Int.reduceMul, not_true_eq_false, not_false_eq_true, false_implies, true_implies, i01_0, i01_1, ite_not, ↓reduceIte, zget_0, zget_1, zget_2, zget_3, zget_4, zget_5, zget_6, zget_7, zget_8, zget_9, zget_10, zset_0, zset_1, zset_2, zset_3, zset_4, zset_5, zset_6, zset_7, zset_8, zset_9, zset_10, kd_0, kd_1, kt_120, rf_0_0, rf_0_1, rf_0_2, rf_0_3, rf_0_4, rf_0_5, rf_0_6, rf_0_7, kd_131, kd_138, kd_164, hp]
theorem c_bridge (h : HH im) {nu un : Int} : CallP (d + 11) 86 [.inr (some 0), .inl a, .inl sl, .inl nu, .inl un] im Q ↔ if nu < 0 ∨ 3 < nu ∨ un < 0 ∨ 128 < un then Q (some (.inl (-1))) im else if frD (trl im 121) a sl = -1 then Q (some (.inl (-1))) (trl im) else Q (some (.inl (frD (trl im 121) a sl))) (kp (setc (pln (trl im) (frD (trl im 121) a sl) 2 a sl) 121 (stc (stc (plgc (trl im 121) (frD (trl im 121) a sl) 2 a sl) (frD (trl im 121) a sl) 4 nu) (frD (trl im 121) a sl) 5 un))) := by
  have hp := fun Q => c_plugIn (d := d) (im := im) (a := a) (sl := sl) (ty := 2) (nu := nu) (un := un) (Q := Q) h
  simp (disch := omega) only [en_86, wp_ireturn rk_86, pg_86_0, pg_86_22, pg_86_24, cw_87, wp_iload, wp_aload, wp_istore, wp_astore, wp_iinc, wp_iconst, wp_dup, wp_dup2, wp_pop, wp_iadd, wp_isub, wp_imul, wp_idiv, wp_irem, wp_ineg, wp_iand, wp_ior, wp_ixor, wp_ishl, wp_ishr, wp_getI, wp_putI, wp_getR, wp_goto, wp_goto_w, wq_if_eq, wq_if_ne, wq_if_lt, wq_if_ge, wq_if_gt, wq_if_le, wq_icmp_eq, wq_icmp_ne, wq_icmp_lt, wq_icmp_ge, wq_icmp_gt, wq_icmp_le, wp_max, wp_min, kI_inl, kR_some, kN_inl, kO_some, KT_none, KT_some, List.length_cons, List.length_nil, Nat.reduceAdd, Nat.reduceLT, Nat.reduceLeDiff, Nat.reduceMod, Nat.reduceDiv, true_and, and_true, Int.reduceLE, Int.reduceNeg, Int.reduceLT, Int.cast_ofNat_Int, Nat.zero_le, zI, Int.reduceAdd, Int.reduceSub, Int.reduceMul, not_true_eq_false, not_false_eq_true, false_implies, true_implies, i01_0, i01_1, ite_not, ↓reduceIte, zget_0, zget_1, zget_2, zget_3, zget_4, zget_5, zget_6, zget_7, zget_8, zget_9, zget_10, zset_0, zset_1, zset_2, zset_3, zset_4, zset_5, zset_6, zset_7, zset_8, zset_9, zset_10, kd_0, kd_1, kt_120, rf_0_0, rf_0_1, rf_0_2, rf_0_3, rf_0_4, rf_0_5, rf_0_6, rf_0_7, kd_131, kd_138, kd_164, hp]
  grind (splits := 20)
/-- whether an aperture can be added: its number, or -1 -/
def apD (c : Int → Int) (dv kd e : Int) : Int := if gt c dv 0 = 1 ∧ gt c dv 3 ≠ 1 ∧ (0 ≤ kd ∧ kd < 2) ∧ (0 ≤ e ∧ e ≤ 8) ∧ 0 ≤ gt c dv 6 ∧ gt c dv 6 < 3 then gt c dv 6 else -1
theorem c_aperture (h : HH im) {e : Int} : CallP (d + 2) 88 [.inr (some 0), .inl dv, .inl kd, .inl e] im Q ↔ if apD (trl im 121) dv kd e = -1 then (∀ r i, (r = some (.inl (-1)) ∧ (i = trl im)) → Q r i) else Q (some (.inl (apD (trl im 121) dv kd e))) (kp (setc (trl im) 121 (stc (stc (stc (stc (trl im 121) dv (9 + apD (trl im 121) dv kd e) kd) dv (12 + apD (trl im 121) dv kd e) (zshl 1 e)) dv (15 + apD (trl im 121) dv kd e) (-1)) dv 6 (apD (trl im 121) dv kd e + 1)))) := by
  have hc := fun Q => c_copyOfNow (d := d) (im := im) (Q := Q) h
  have e1 : trl im 1 = im 1 := trl_ne (by omega)
  have hk := fun (X : zM) Q (e : X 1 = im 1) => c_kpH (d := d) (im := im) (X := X) (Q := Q) h e
  have hs := fun (X : zM) (dv f v : Int) Q => c_setM (d := d + 1) (im := X) (t := 120) (dv := dv) (f := f) (v := v) (Q := Q) zT_120
  have em : ∀ X (c : Int → Int), setc X 121 c 1 = X 1 := fun X c => setc_ne _ _ (by omega)
  have en : (∀ r i, (r = some (.inl (-1)) ∧ (i = trl im)) → Q r i) ↔ Q (some (.inl (-1))) (trl im) := ⟨fun h => h _ _ ⟨rfl, rfl⟩, fun h r i ⟨e1, e2⟩ => by rw [e1, e2]; exact h⟩
  rw [en]
  simp (disch := first | omega | (simp only [em, e1])) only [en_88, wp_ireturn rk_88, pg_88_0, pg_88_38, pg_88_40, pg_88_61, pg_88_63, cw_2, cw_49, cw_50, cw_52, cw_54, cw_136, cw_137, cw_138, wp_iload, wp_aload, wp_istore, wp_astore, wp_iinc, wp_iconst, wp_dup, wp_dup2, wp_pop, wp_iadd, wp_isub, wp_imul, wp_idiv, wp_irem, wp_ineg, wp_iand, wp_ior, wp_ixor, wp_ishl, wp_ishr, wp_getI, wp_putI, wp_getR, wp_goto, wp_goto_w, wq_if_eq, wq_if_ne, wq_if_lt, wq_if_ge, wq_if_gt, wq_if_le, wq_icmp_eq, wq_icmp_ne, wq_icmp_lt, wq_icmp_ge, wq_icmp_gt, wq_icmp_le, wp_max, wp_min, kI_inl, kR_some, kN_inl, kO_some, KT_none, KT_some, List.length_cons, List.length_nil, Nat.reduceAdd, Nat.reduceLT, Nat.reduceLeDiff, Nat.reduceMod, Nat.reduceDiv, true_and, and_true, Int.reduceLE, Int.reduceNeg, Int.reduceLT, Int.cast_ofNat_Int, Nat.zero_le, zI, Int.reduceAdd, Int.reduceSub, Int.reduceMul, not_true_eq_false, not_false_eq_true, false_implies, true_implies, i01_0, i01_1, ite_not, ↓reduceIte, zget_0, zget_1, zget_2, zget_3, zget_4, zget_5, zget_6, zget_7, zget_8, zget_9, zget_10, zset_0, zset_1, zset_2, zset_3, zset_4, zset_5, zset_6, zset_7, zset_8, zset_9, zset_10, kd_0, kd_1, kt_120, rf_0_0, rf_0_1, rf_0_2, rf_0_3, rf_0_4, rf_0_5, rf_0_6, rf_0_7, kd_131, kd_138, kd_164, hc, c_isEndpoint zT_120, c_isOn zT_120, c_get zT_120, c_isKind, c_isExponent, hs, hk, setc_at, setc_setc]
  by_cases c1 : gt (trl im 121) dv 0 = 1
  · by_cases c2 : gt (trl im 121) dv 3 = 1
    · simp only [apD, c1, c2, if_true, ne_eq, not_true_eq_false, false_and, and_false, if_false, show ¬ (1 : Int) = 0 by omega, not_false_eq_true]
    · by_cases c3 : 0 ≤ kd ∧ kd < 2
      · by_cases c4 : 0 ≤ e ∧ e ≤ 8
        · by_cases c5 : 0 ≤ gt (trl im 121) dv 6
          · by_cases c6 : gt (trl im 121) dv 6 < 3
            · simp only [apD, c1, c2, c3, c4, c5, c6, and_self, true_and, if_true, ne_eq, not_true_eq_false, if_false, show ¬ (1 : Int) = 0 by omega, not_false_eq_true, show ¬ gt (trl im 121) dv 6 < 0 by omega, show ¬ gt (trl im 121) dv 6 = -1 by omega]
              repeat (refine (and_iff_right (by omega)).trans ?_)
              exact Iff.rfl
            · simp only [apD, c1, c2, c3, c4, c5, c6, and_self, true_and, and_false, if_true, ne_eq, not_true_eq_false, if_false, show ¬ (1 : Int) = 0 by omega, not_false_eq_true, show ¬ gt (trl im 121) dv 6 < 0 by omega]
          · simp only [apD, c1, c2, c3, c4, c5, and_self, true_and, false_and, and_false, if_true, ne_eq, not_true_eq_false, if_false, show ¬ (1 : Int) = 0 by omega, not_false_eq_true, show gt (trl im 121) dv 6 < 0 by omega]
        · rw [show apD (trl im 121) dv kd e = -1 from if_neg (fun q => c4 q.2.2.2.1), if_neg c4]
          simp only [if_true, if_false, ite_self, not_true_eq_false, show ¬ (1 : Int) = 0 by omega, not_false_eq_true]
      · rw [show apD (trl im 121) dv kd e = -1 from if_neg (fun q => c3 q.2.2.1), if_neg c3]
        simp only [if_true, if_false, ite_self, not_true_eq_false, show ¬ (1 : Int) = 0 by omega, not_false_eq_true]
  · simp only [apD, c1, if_true, false_and, if_false]
theorem c_unplug (h : HH im) (hn : 0 ≤ trl im 120 4 ∧ trl im 120 4 ≤ 20) {r : zWS} {c : Int → Int} (hc : c = rmc (trl im 121) (trl im 123) (trl im 120 4) dv) (hr : r = lp (lff c) (trl im 120 4).toNat 0 (trl im 123, 0)) : CallP (d + 3) 89 [.inr (some 0), .inl dv] im Q ↔ if gt (trl im 121) dv 0 ≤ 0 then Q (some (.inl (-1))) (trl im) else Q (some (.inl (trl im 120 4 - r.2))) (kp (stw (setc (trl im) 121 c) 120 r)) := by
  have h1 := fun Q => c_copyOfNow (d := d + 1) (im := im) (Q := Q) h
  have e1 : trl im 1 = im 1 := trl_ne (by omega)
  have hk := fun (X : zM) Q (e : X 1 = im 1) => c_kpH (d := d + 1) (im := im) (X := X) (Q := Q) h e
  have hrm := fun Q => c_remove (d := d) (im := trl im) (dv := dv) (Q := Q) zT_120 hn
  simp only [← hc, ← hr] at hrm
  have em : stw (setc (trl im) 121 c) 120 r 1 = im 1 := by rw [stw_ne (by omega) (by omega), setc_ne _ _ (by omega), e1]
  simp (disch := first | omega | assumption) only [en_89, wp_ireturn rk_89, pg_89_0, pg_89_15, cw_2, cw_51, cw_72, cw_136, wp_iload, wp_aload, wp_istore, wp_astore, wp_iinc, wp_iconst, wp_dup, wp_dup2, wp_pop, wp_iadd, wp_isub, wp_imul, wp_idiv, wp_irem, wp_ineg, wp_iand, wp_ior, wp_ixor, wp_ishl, wp_ishr, wp_getI, wp_putI, wp_getR, wp_goto, wp_goto_w, wq_if_eq, wq_if_ne, wq_if_lt, wq_if_ge, wq_if_gt, wq_if_le, wq_icmp_eq, wq_icmp_ne, wq_icmp_lt, wq_icmp_ge, wq_icmp_gt, wq_icmp_le, wp_max, wp_min, kI_inl, kR_some, kN_inl, kO_some, KT_none, KT_some, List.length_cons, List.length_nil, Nat.reduceAdd, Nat.reduceLT, Nat.reduceLeDiff, Nat.reduceMod, Nat.reduceDiv, true_and, and_true, Int.reduceLE, Int.reduceNeg, Int.reduceLT, Int.cast_ofNat_Int, Nat.zero_le, zI, Int.reduceAdd, Int.reduceSub, Int.reduceMul, not_true_eq_false, not_false_eq_true, false_implies, true_implies, i01_0, i01_1, ite_not, ↓reduceIte, zget_0, zget_1, zget_2, zget_3, zget_4, zget_5, zget_6, zget_7, zget_8, zget_9, zget_10, zset_0, zset_1, zset_2, zset_3, zset_4, zset_5, zset_6, zset_7, zset_8, zset_9, zset_10, kd_0, kd_1, kt_120, rf_0_0, rf_0_1, rf_0_2, rf_0_3, rf_0_4, rf_0_5, rf_0_6, rf_0_7, kd_131, kd_138, kd_164, h1, c_isThere zT_120, hrm, hk]
  by_cases c1 : 0 < gt (trl im 121) dv 0
  · simp only [c1, if_true, if_false, show ¬ (1 : Int) = 0 by omega, not_false_eq_true, show ¬ gt (trl im 121) dv 0 ≤ 0 by omega]
  · simp only [c1, if_true, if_false, not_true_eq_false, show gt (trl im 121) dv 0 ≤ 0 by omega]
/-- whether one can be shifted -/
abbrev shB (c : Int → Int) (dv a sl : Int) : Prop := 0 < gt c dv 0 ∧ gt c dv 3 ≠ 1 ∧ a ≠ dv ∧ bhB c a dv ≠ true ∧ (a = -1 ∨ gt c a 0 = 2) ∧ 0 ≤ sl ∧ sl < 8 ∧ ff (plgB c a sl) 20 0 = -1 ∧ dpf c 5 a + lp (hgf c dv) 20 0 0 ≤ 4
theorem hgf_bd {c : Int → Int} : ∀ (n : Nat) (e s : Int), 0 ≤ s ∧ s ≤ 5 → 0 ≤ lp (hgf c dv) n e s ∧ lp (hgf c dv) n e s ≤ 5
  | 0, e, s, h => h
  | n + 1, e, s, h => by
    have d1 := dpf_rg c 5 (gt c e 1)
    have d2 := dpf_rg c 5 (gt c dv 1)
    refine hgf_bd n (e + 1) (hgf c dv e s) ?_
    unfold hgf
    split <;> omega
theorem c_shift (h : HH im) : CallP (d + 10) 90 [.inr (some 0), .inl dv, .inl a, .inl sl] im Q ↔ if shB (trl im 121) dv a sl then Q (some (.inl 1)) (kp (pln (trl im) dv (gt (trl im 121) dv 0) a sl)) else Q (some (.inl 0)) (trl im) := by
  have h1 := fun Q => c_copyOfNow (d := d + 8) (im := im) (Q := Q) h
  have e1 : trl im 1 = im 1 := trl_ne (by omega)
  have hk := fun (X : zM) Q (e : X 1 = im 1) => c_kpH (d := d + 8) (im := im) (X := X) (Q := Q) h e
  have hpl := fun (X : zM) (dv ty : Int) Q (q : 0 ≤ dv ∧ dv < 20) => c_plugM (d := d) (im := X) (a := a) (sl := sl) (ty := ty) (Q := Q) (dv := dv) q
  have ep : ∀ X dv ty a sl, pln X dv ty a sl 1 = X 1 := fun X dv ty a sl => pln_ne (by omega)
  have hb := hgf_bd (c := trl im 121) (dv := dv) 20 0 0 (by omega)
  have ht := fun Q => c_takes (d := d + 6) (im := trl im) (a := a) (sl := sl) (v := lp (hgf (trl im 121) dv) 20 0 0) (Q := Q) zT_120 (by omega)
  have hh := fun Q => c_height (d := d + 7) (im := trl im) (dv := dv) (Q := Q) zT_120
  by_cases c1 : 0 < gt (trl im 121) dv 0
  · have he : 0 ≤ dv ∧ dv < 20 := gt_in (c := trl im 121) (f := 0) (by omega)
    simp (disch := first | omega | (simp only [ep, e1])) only [en_90, wp_zreturn rk_90, pg_90_0, pg_90_29, pg_90_31, pg_90_57, pg_90_59, cw_2, cw_49, cw_51, cw_54, cw_67, cw_68, cw_69, cw_70, cw_136, wp_iload, wp_aload, wp_istore, wp_astore, wp_iinc, wp_iconst, wp_dup, wp_dup2, wp_pop, wp_iadd, wp_isub, wp_imul, wp_idiv, wp_irem, wp_ineg, wp_iand, wp_ior, wp_ixor, wp_ishl, wp_ishr, wp_getI, wp_putI, wp_getR, wp_goto, wp_goto_w, wq_if_eq, wq_if_ne, wq_if_lt, wq_if_ge, wq_if_gt, wq_if_le, wq_icmp_eq, wq_icmp_ne, wq_icmp_lt, wq_icmp_ge, wq_icmp_gt, wq_icmp_le, wp_max, wp_min, kI_inl, kR_some, kN_inl, kO_some, KT_none, KT_some, List.length_cons, List.length_nil, Nat.reduceAdd, Nat.reduceLT, Nat.reduceLeDiff, Nat.reduceMod, Nat.reduceDiv, true_and, and_true, Int.reduceLE, Int.reduceNeg, Int.reduceLT, Int.cast_ofNat_Int, Nat.zero_le, zI, Int.reduceAdd, Int.reduceSub, Int.reduceMul, not_true_eq_false, not_false_eq_true, false_implies, true_implies, i01_0, i01_1, ite_not, ↓reduceIte, zget_0, zget_1, zget_2, zget_3, zget_4, zget_5, zget_6, zget_7, zget_8, zget_9, zget_10, zset_0, zset_1, zset_2, zset_3, zset_4, zset_5, zset_6, zset_7, zset_8, zset_9, zset_10, kd_0, kd_1, kt_120, rf_0_0, rf_0_1, rf_0_2, rf_0_3, rf_0_4, rf_0_5, rf_0_6, rf_0_7, kd_131, kd_138, kd_164, h1, c_isThere zT_120, c_isOn zT_120, c_isBehind zT_120, hh, ht, c_get zT_120, hpl, hk, c1, if_true]
    simp only [show ¬ (1 : Int) = 0 by omega, not_false_eq_true, not_true_eq_false, if_true, if_false]
    grind (splits := 20)
  · simp (disch := first | omega | (simp only [ep, e1])) only [en_90, wp_zreturn rk_90, pg_90_0, pg_90_29, pg_90_31, pg_90_57, pg_90_59, cw_2, cw_49, cw_51, cw_54, cw_67, cw_68, cw_69, cw_70, cw_136, wp_iload, wp_aload, wp_istore, wp_astore, wp_iinc, wp_iconst, wp_dup, wp_dup2, wp_pop, wp_iadd, wp_isub, wp_imul, wp_idiv, wp_irem, wp_ineg, wp_iand, wp_ior, wp_ixor, wp_ishl, wp_ishr, wp_getI, wp_putI, wp_getR, wp_goto, wp_goto_w, wq_if_eq, wq_if_ne, wq_if_lt, wq_if_ge, wq_if_gt, wq_if_le, wq_icmp_eq, wq_icmp_ne, wq_icmp_lt, wq_icmp_ge, wq_icmp_gt, wq_icmp_le, wp_max, wp_min, kI_inl, kR_some, kN_inl, kO_some, KT_none, KT_some, List.length_cons, List.length_nil, Nat.reduceAdd, Nat.reduceLT, Nat.reduceLeDiff, Nat.reduceMod, Nat.reduceDiv, true_and, and_true, Int.reduceLE, Int.reduceNeg, Int.reduceLT, Int.cast_ofNat_Int, Nat.zero_le, zI, Int.reduceAdd, Int.reduceSub, Int.reduceMul, not_true_eq_false, not_false_eq_true, false_implies, true_implies, i01_0, i01_1, ite_not, ↓reduceIte, zget_0, zget_1, zget_2, zget_3, zget_4, zget_5, zget_6, zget_7, zget_8, zget_9, zget_10, zset_0, zset_1, zset_2, zset_3, zset_4, zset_5, zset_6, zset_7, zset_8, zset_9, zset_10, kd_0, kd_1, kt_120, rf_0_0, rf_0_1, rf_0_2, rf_0_3, rf_0_4, rf_0_5, rf_0_6, rf_0_7, kd_131, kd_138, kd_164, h1, c_isThere zT_120, c1, if_false]
    simp only [shB, c1, false_and, if_false, if_true]
    grind
theorem c_space (h : HH im) : CallP (d + 3) 91 [.inr (some 0), .inl kd, .inl v] im Q ↔ if (0 ≤ kd ∧ kd < 2) ∧ (0 ≤ v ∧ v ≤ 1024) ∧ lp (cntf (onB (trl im 121))) 20 0 0 ≤ 0 then Q (some (.inl 1)) (kp (setc (trl im) 122 (ups (trl im 122) kd v))) else Q (some (.inl 0)) (trl im) := by
  have h1 := fun Q => c_copyOfNow (d := d + 1) (im := im) (Q := Q) h
  have e1 : trl im 1 = im 1 := trl_ne (by omega)
  have hk := fun (X : zM) Q (e : X 1 = im 1) => c_kpH (d := d + 1) (im := im) (X := X) (Q := Q) h e
  have em : ∀ X (c : Int → Int), setc X 122 c 1 = X 1 := fun X c => setc_ne _ _ (by omega)
  have k2 := (zT_k zT_120).2.2.1
  have r1 := (zT_r0 _ zT_120).2.1
  simp (disch := first | omega | (simp only [em, e1])) only [en_91, wp_zreturn rk_91, pg_91_0, pg_91_30, pg_91_32, cw_2, cw_80, cw_136, cw_137, wp_iload, wp_aload, wp_istore, wp_astore, wp_iinc, wp_iconst, wp_dup, wp_dup2, wp_pop, wp_iadd, wp_isub, wp_imul, wp_idiv, wp_irem, wp_ineg, wp_iand, wp_ior, wp_ixor, wp_ishl, wp_ishr, wp_getI, wp_putI, wp_getR, wp_goto, wp_goto_w, wq_if_eq, wq_if_ne, wq_if_lt, wq_if_ge, wq_if_gt, wq_if_le, wq_icmp_eq, wq_icmp_ne, wq_icmp_lt, wq_icmp_ge, wq_icmp_gt, wq_icmp_le, wp_max, wp_min, kI_inl, kR_some, kN_inl, kO_some, KT_none, KT_some, List.length_cons, List.length_nil, Nat.reduceAdd, Nat.reduceLT, Nat.reduceLeDiff, Nat.reduceMod, Nat.reduceDiv, true_and, and_true, Int.reduceLE, Int.reduceNeg, Int.reduceLT, Int.cast_ofNat_Int, Nat.zero_le, zI, Int.reduceAdd, Int.reduceSub, Int.reduceMul, not_true_eq_false, not_false_eq_true, false_implies, true_implies, i01_0, i01_1, ite_not, ↓reduceIte, zget_0, zget_1, zget_2, zget_3, zget_4, zget_5, zget_6, zget_7, zget_8, zget_9, zget_10, zset_0, zset_1, zset_2, zset_3, zset_4, zset_5, zset_6, zset_7, zset_8, zset_9, zset_10, kd_0, kd_1, kt_120, rf_0_0, rf_0_1, rf_0_2, rf_0_3, rf_0_4, rf_0_5, rf_0_6, rf_0_7, kd_131, kd_138, kd_164, h1, c_isKind, c_countOn zT_120, hk, r1, wp_iastore k2, zu_setc]
  by_cases c1 : 0 ≤ kd ∧ kd < 2
  · simp only [c1, and_self, true_and, if_true, show ¬ (1 : Int) = 0 by omega, not_false_eq_true, not_true_eq_false, if_false]
    grind (splits := 20)
  · simp only [c1, false_and, if_false, if_true]
    try grind
theorem c_powerUp (h : HH im) (hn : 0 ≤ trl im 120 4 ∧ trl im 120 4 ≤ 20) (hok : RunOK (trl im) 120) : CallP (d + 9) 92 [.inr (some 0)] im Q ↔ Q (some (.inl (lp (cntf (onB (run2 (trl im) 120).1.1)) 20 0 0))) (kp (mt3 (trl im) 120 (run2 (trl im) 120))) := by
  have h1 := fun Q => c_copyOfNow (d := d + 7) (im := im) (Q := Q) h
  have e1 : trl im 1 = im 1 := trl_ne (by omega)
  have hk := fun (X : zM) Q (e : X 1 = im 1) => c_kpH (d := d + 7) (im := im) (X := X) (Q := Q) h e
  have hr := fun Q => c_run (d := d) (im := trl im) (Q := Q) zT_120 hn hok
  have hco := fun X Q => c_countOn (d := d + 6) (im := X) (Q := Q) zT_120
  have em : ∀ X S, mt3 X 120 S 1 = X 1 := fun X S => by
    unfold mt3
    rw [mt2_ne zT_120 _ _ (by omega) (by omega), str_ne _ _ (by omega) (by omega)]
  have ek : kp (mt3 (trl im) 120 (run2 (trl im) 120)) 121 = (run2 (trl im) 120).1.1 := by
    unfold kp
    rw [em, e1, setc_ne _ _ (by omega), cpt_ne (by have := nowT_lt (a := (im 1 1 + 1) % 21) (by have := h.1; omega); omega)]
    exact mt3_c zT_120 _
  simp (disch := first | omega | (simp only [em, e1])) only [en_92, wp_ireturn rk_92, pg_92_0, cw_2, cw_19, cw_80, cw_136, wp_iload, wp_aload, wp_istore, wp_astore, wp_iinc, wp_iconst, wp_dup, wp_dup2, wp_pop, wp_iadd, wp_isub, wp_imul, wp_idiv, wp_irem, wp_ineg, wp_iand, wp_ior, wp_ixor, wp_ishl, wp_ishr, wp_getI, wp_putI, wp_getR, wp_goto, wp_goto_w, wq_if_eq, wq_if_ne, wq_if_lt, wq_if_ge, wq_if_gt, wq_if_le, wq_icmp_eq, wq_icmp_ne, wq_icmp_lt, wq_icmp_ge, wq_icmp_gt, wq_icmp_le, wp_max, wp_min, kI_inl, kR_some, kN_inl, kO_some, KT_none, KT_some, List.length_cons, List.length_nil, Nat.reduceAdd, Nat.reduceLT, Nat.reduceLeDiff, Nat.reduceMod, Nat.reduceDiv, true_and, and_true, Int.reduceLE, Int.reduceNeg, Int.reduceLT, Int.cast_ofNat_Int, Nat.zero_le, zI, Int.reduceAdd, Int.reduceSub, Int.reduceMul, not_true_eq_false, not_false_eq_true, false_implies, true_implies, i01_0, i01_1, ite_not, ↓reduceIte, zget_0, zget_1, zget_2, zget_3, zget_4, zget_5, zget_6, zget_7, zget_8, zget_9, zget_10, zset_0, zset_1, zset_2, zset_3, zset_4, zset_5, zset_6, zset_7, zset_8, zset_9, zset_10, kd_0, kd_1, kt_120, rf_0_0, rf_0_1, rf_0_2, rf_0_3, rf_0_4, rf_0_5, rf_0_6, rf_0_7, kd_131, kd_138, kd_164, h1, hr, hk, hco, ek]
theorem c_start (h : HH im) (hn : trl im 120 4 ≤ 20) (hi : PlI (trl im 121) (trl im 122)) (hch : ChB (im 163)) {r : Int × zPl} (hr : r = bgS (trl im 123) (trl im 122) (trl im 120 4) dv (plG (trl im) 120)) : CallP (d + 8) 93 [.inr (some 0), .inl dv] im Q ↔ if 0 ≤ r.1 then Q (some (.inl r.1)) (kp (plm (trl im) 120 r.2)) else Q (some (.inl r.1)) (plm (trl im) 120 r.2) := by
  have h1 := fun Q => c_copyOfNow (d := d + 6) (im := im) (Q := Q) h
  have e1 : trl im 1 = im 1 := trl_ne (by omega)
  have hk := fun (X : zM) Q (e : X 1 = im 1) => c_kpH (d := d + 6) (im := im) (X := X) (Q := Q) h e
  have hb := fun Q => c_begin7 (d := d) (im := trl im) (dv := dv) (P := plG (trl im) 120) (Q := Q) zT_120 hn hi (by
    have e2 : (plG (trl im) 120).2.2.2.2.2 = im 163 := (trl_ne (by omega) : trl im 163 = im 163)
    rw [e2]
    exact hch) hr
  rw [plm_self] at hb
  have em : ∀ X P, plm X 120 P 1 = X 1 := fun X P => plm_o (by omega) (by omega)
  simp (disch := first | omega | (simp only [em, e1])) only [en_93, wp_ireturn rk_93, pg_93_0, pg_93_27, cw_2, cw_7, cw_136, wp_iload, wp_aload, wp_istore, wp_astore, wp_iinc, wp_iconst, wp_dup, wp_dup2, wp_pop, wp_iadd, wp_isub, wp_imul, wp_idiv, wp_irem, wp_ineg, wp_iand, wp_ior, wp_ixor, wp_ishl, wp_ishr, wp_getI, wp_putI, wp_getR, wp_goto, wp_goto_w, wq_if_eq, wq_if_ne, wq_if_lt, wq_if_ge, wq_if_gt, wq_if_le, wq_icmp_eq, wq_icmp_ne, wq_icmp_lt, wq_icmp_ge, wq_icmp_gt, wq_icmp_le, wp_max, wp_min, kI_inl, kR_some, kN_inl, kO_some, KT_none, KT_some, List.length_cons, List.length_nil, Nat.reduceAdd, Nat.reduceLT, Nat.reduceLeDiff, Nat.reduceMod, Nat.reduceDiv, true_and, and_true, Int.reduceLE, Int.reduceNeg, Int.reduceLT, Int.cast_ofNat_Int, Nat.zero_le, zI, Int.reduceAdd, Int.reduceSub, Int.reduceMul, not_true_eq_false, not_false_eq_true, false_implies, true_implies, i01_0, i01_1, ite_not, ↓reduceIte, zget_0, zget_1, zget_2, zget_3, zget_4, zget_5, zget_6, zget_7, zget_8, zget_9, zget_10, zset_0, zset_1, zset_2, zset_3, zset_4, zset_5, zset_6, zset_7, zset_8, zset_9, zset_10, kd_0, kd_1, kt_120, rf_0_0, rf_0_1, rf_0_2, rf_0_3, rf_0_4, rf_0_5, rf_0_6, rf_0_7, kd_131, kd_138, kd_164, h1, hb, hk]
  grind
theorem c_stop (h : HH im) {r : (Int → Int) × Int} (hr : r = lp (tof dv) 20 0 (trl im 121, 0)) : CallP (d + 3) 94 [.inr (some 0), .inl dv] im Q ↔ if gt (trl im 121) dv 3 = 1 then Q (some (.inl r.2)) (kp (setc (trl im) 121 r.1)) else Q (some (.inl (-1))) (trl im) := by
  have h1 := fun Q => c_copyOfNow (d := d + 1) (im := im) (Q := Q) h
  have e1 : trl im 1 = im 1 := trl_ne (by omega)
  have hk := fun (X : zM) Q (e : X 1 = im 1) => c_kpH (d := d + 1) (im := im) (X := X) (Q := Q) h e
  have em : ∀ X (c : Int → Int), setc X 121 c 1 = X 1 := fun X c => setc_ne _ _ (by omega)
  have hto := fun Q => c_turnOff (d := d) (im := trl im) (dv := dv) (Q := Q) zT_120
  simp only [← hr] at hto
  simp (disch := first | omega | (simp only [em, e1])) only [en_94, wp_ireturn rk_94, pg_94_0, pg_94_15, cw_2, cw_54, cw_73, cw_136, wp_iload, wp_aload, wp_istore, wp_astore, wp_iinc, wp_iconst, wp_dup, wp_dup2, wp_pop, wp_iadd, wp_isub, wp_imul, wp_idiv, wp_irem, wp_ineg, wp_iand, wp_ior, wp_ixor, wp_ishl, wp_ishr, wp_getI, wp_putI, wp_getR, wp_goto, wp_goto_w, wq_if_eq, wq_if_ne, wq_if_lt, wq_if_ge, wq_if_gt, wq_if_le, wq_icmp_eq, wq_icmp_ne, wq_icmp_lt, wq_icmp_ge, wq_icmp_gt, wq_icmp_le, wp_max, wp_min, kI_inl, kR_some, kN_inl, kO_some, KT_none, KT_some, List.length_cons, List.length_nil, Nat.reduceAdd, Nat.reduceLT, Nat.reduceLeDiff, Nat.reduceMod, Nat.reduceDiv, true_and, and_true, Int.reduceLE, Int.reduceNeg, Int.reduceLT, Int.cast_ofNat_Int, Nat.zero_le, zI, Int.reduceAdd, Int.reduceSub, Int.reduceMul, not_true_eq_false, not_false_eq_true, false_implies, true_implies, i01_0, i01_1, ite_not, ↓reduceIte, zget_0, zget_1, zget_2, zget_3, zget_4, zget_5, zget_6, zget_7, zget_8, zget_9, zget_10, zset_0, zset_1, zset_2, zset_3, zset_4, zset_5, zset_6, zset_7, zset_8, zset_9, zset_10, kd_0, kd_1, kt_120, rf_0_0, rf_0_1, rf_0_2, rf_0_3, rf_0_4, rf_0_5, rf_0_6, rf_0_7, kd_131, kd_138, kd_164, h1, c_isOn zT_120, hto, hk]
  try grind
theorem c_rebalance (h : HH im) (hn : trl im 120 4 ≤ 20) (hi : PlI (trl im 121) (trl im 122)) (hch : ChB (im 163)) {r : Int × zPl} (hr : r = mkS (trl im 123) (trl im 122) (trl im 120 4) dv (plG (trl im) 120)) : CallP (d + 8) 95 [.inr (some 0), .inl dv] im Q ↔ if 0 ≤ r.1 then Q (some (.inl r.1)) (kp (plm (trl im) 120 r.2)) else Q (some (.inl r.1)) (plm (trl im) 120 r.2) := by
  have h1 := fun Q => c_copyOfNow (d := d + 6) (im := im) (Q := Q) h
  have e1 : trl im 1 = im 1 := trl_ne (by omega)
  have hk := fun (X : zM) Q (e : X 1 = im 1) => c_kpH (d := d + 6) (im := im) (X := X) (Q := Q) h e
  have hb := fun Q => c_makeRoom (d := d) (im := trl im) (dv := dv) (P := plG (trl im) 120) (Q := Q) zT_120 hn hi (by
    have e2 : (plG (trl im) 120).2.2.2.2.2 = im 163 := (trl_ne (by omega) : trl im 163 = im 163)
    rw [e2]
    exact hch) hr
  rw [plm_self] at hb
  have em : ∀ X P, plm X 120 P 1 = X 1 := fun X P => plm_o (by omega) (by omega)
  simp (disch := first | omega | (simp only [em, e1])) only [en_95, wp_ireturn rk_95, pg_95_0, pg_95_27, cw_2, cw_10, cw_136, wp_iload, wp_aload, wp_istore, wp_astore, wp_iinc, wp_iconst, wp_dup, wp_dup2, wp_pop, wp_iadd, wp_isub, wp_imul, wp_idiv, wp_irem, wp_ineg, wp_iand, wp_ior, wp_ixor, wp_ishl, wp_ishr, wp_getI, wp_putI, wp_getR, wp_goto, wp_goto_w, wq_if_eq, wq_if_ne, wq_if_lt, wq_if_ge, wq_if_gt, wq_if_le, wq_icmp_eq, wq_icmp_ne, wq_icmp_lt, wq_icmp_ge, wq_icmp_gt, wq_icmp_le, wp_max, wp_min, kI_inl, kR_some, kN_inl, kO_some, KT_none, KT_some, List.length_cons, List.length_nil, Nat.reduceAdd, Nat.reduceLT, Nat.reduceLeDiff, Nat.reduceMod, Nat.reduceDiv, true_and, and_true, Int.reduceLE, Int.reduceNeg, Int.reduceLT, Int.cast_ofNat_Int, Nat.zero_le, zI, Int.reduceAdd, Int.reduceSub, Int.reduceMul, not_true_eq_false, not_false_eq_true, false_implies, true_implies, i01_0, i01_1, ite_not, ↓reduceIte, zget_0, zget_1, zget_2, zget_3, zget_4, zget_5, zget_6, zget_7, zget_8, zget_9, zget_10, zset_0, zset_1, zset_2, zset_3, zset_4, zset_5, zset_6, zset_7, zset_8, zset_9, zset_10, kd_0, kd_1, kt_120, rf_0_0, rf_0_1, rf_0_2, rf_0_3, rf_0_4, rf_0_5, rf_0_6, rf_0_7, kd_131, kd_138, kd_164, h1, hb, hk]
  grind
theorem c_moves (h : HH im) (hn : trl im 120 4 ≤ 20) (hi : PlI (trl im 121) (trl im 122)) (hch : ChB (im 163)) {r : Int × zPl} (hr : r = mkS (trl im 123) (trl im 122) (trl im 120 4) dv (plG (trl im) 120)) : CallP (d + 8) 96 [.inr (some 0), .inl dv] im Q ↔ Q (some (.inl r.1)) (plm (trl im) 120 r.2) := by
  have h1 := fun Q => c_copyOfNow (d := d + 6) (im := im) (Q := Q) h
  have hb := fun Q => c_makeRoom (d := d) (im := trl im) (dv := dv) (P := plG (trl im) 120) (Q := Q) zT_120 hn hi (by
    have e2 : (plG (trl im) 120).2.2.2.2.2 = im 163 := (trl_ne (by omega) : trl im 163 = im 163)
    rw [e2]
    exact hch) hr
  rw [plm_self] at hb
  simp (disch := omega) only [en_96, wp_ireturn rk_96, pg_96_0, cw_10, cw_136, wp_iload, wp_aload, wp_istore, wp_astore, wp_iinc, wp_iconst, wp_dup, wp_dup2, wp_pop, wp_iadd, wp_isub, wp_imul, wp_idiv, wp_irem, wp_ineg, wp_iand, wp_ior, wp_ixor, wp_ishl, wp_ishr, wp_getI, wp_putI, wp_getR, wp_goto, wp_goto_w, wq_if_eq, wq_if_ne, wq_if_lt, wq_if_ge, wq_if_gt, wq_if_le, wq_icmp_eq, wq_icmp_ne, wq_icmp_lt, wq_icmp_ge, wq_icmp_gt, wq_icmp_le, wp_max, wp_min, kI_inl, kR_some, kN_inl, kO_some, KT_none, KT_some, List.length_cons, List.length_nil, Nat.reduceAdd, Nat.reduceLT, Nat.reduceLeDiff, Nat.reduceMod, Nat.reduceDiv, true_and, and_true, Int.reduceLE, Int.reduceNeg, Int.reduceLT, Int.cast_ofNat_Int, Nat.zero_le, zI, Int.reduceAdd, Int.reduceSub, Int.reduceMul, not_true_eq_false, not_false_eq_true, false_implies, true_implies, i01_0, i01_1, ite_not, ↓reduceIte, zget_0, zget_1, zget_2, zget_3, zget_4, zget_5, zget_6, zget_7, zget_8, zget_9, zget_10, zset_0, zset_1, zset_2, zset_3, zset_4, zset_5, zset_6, zset_7, zset_8, zset_9, zset_10, kd_0, kd_1, kt_120, rf_0_0, rf_0_1, rf_0_2, rf_0_3, rf_0_4, rf_0_5, rf_0_6, rf_0_7, kd_131, kd_138, kd_164, h1, hb]
end FA
