/-! THE CLASS'S POWER-UP: measuring -/
section PM
variable {d s t u o : Nat} {im : zM} {Q : Option zV → zM → Prop} {a b v dv kd sl i j k : Int}
theorem zT_lt (ht : zT t) : t + 5 ≤ 132 ∨ 138 ≤ t := zTS_apart ht zSh_132
def mt2 (im : zM) (t : Nat) (c : Int → Int) (z : zSS) : zM := sth (setc im (t + 1) c) 132 z
noncomputable def ordC (c w : Int → Int) (n a k : Int) (z : zSS) : zSS := ordS (gatS c w n a k z)
noncomputable def ndS (c w : Int → Int) (n a k : Int) (z : zSS) : Int × zSS := ((layS (ordC c w n a k z)).1, setB (ordC c w n a k z) (layS (ordC c w n a k z)).2)
theorem galS_setB (z : zSS) (b : Int → Int) : galS (setB z b) = galS z := rfl
noncomputable def msf (w : Int → Int) (n k : Int) (i : Int) (y : (Int → Int) × zSS) : (Int → Int) × zSS :=
  if gt y.1 (wka w n i) 0 = 2 ∧ gt y.1 (wka w n i) 3 = 1 then
    (ups (ups y.1 (wka w n i * 24 + (20 + k)) (rup ((ndS y.1 w n (wka w n i) k y.2).1 + gt y.1 (wka w n i) 5) 16)) (wka w n i * 24 + (22 + k)) (max 16 (galS (ndS y.1 w n (wka w n i) k y.2).2)), (ndS y.1 w n (wka w n i) k y.2).2)
  else y
noncomputable def msd (w : Int → Int) (n k : Int) : Nat → (Int → Int) × zSS → (Int → Int) × zSS
  | 0, y => y
  | m + 1, y => msd w n k m (msf w n k (m : Nat) y)
def MsOK (w : Int → Int) (n k : Int) : Nat → (Int → Int) × zSS → Prop
  | 0, y => TB y.1 ∧ TW y.1 k
  | m + 1, y => (TB y.1 ∧ TW y.1 k ∧ ∀ e, 0 ≤ gt y.1 e 5 + 1 ∧ gt y.1 e 5 ≤ 1048576) ∧ MsOK w n k m (msf w n k (m : Nat) y)
theorem layS_le {z : zSS} (h : SBd z) : 0 ≤ (layS z).1 ∧ (layS z).1 ≤ 27 * 34603008 := by
  have main : ∀ (n : Nat) (i : Int) (y : Int × (Int → Int)), 0 ≤ i → i + n ≤ min z.2.2.2.2.2 27 → 0 ≤ y.1 ∧ y.1 ≤ i * 34603008 → 0 ≤ (lp (lyf z.2.2.1 z.2.2.2.1) n i y).1 ∧ (lp (lyf z.2.2.1 z.2.2.2.1) n i y).1 ≤ (i + n) * 34603008 := by
    intro n
    induction n with
    | zero =>
      intro i y h0 h1 hy
      simp only [lp]
      omega
    | succ n ih =>
      intro i y h0 h1 hy
      have b1 := (h i h0 (by omega) (by omega)).1
      have b2 := (h i h0 (by omega) (by omega)).2
      have b3 := rup_le (v := y.1) (st := z.2.2.1 i) (by omega) (by omega)
      have := ih (i + 1) (lyf z.2.2.1 z.2.2.2.1 i y) (by omega) (by omega) (by simp only [lyf]; omega)
      simp only [lp]
      omega
  unfold layS
  by_cases e : 0 ≤ min z.2.2.2.2.2 27
  · have := main (min z.2.2.2.2.2 27).toNat 0 (0, z.2.2.2.2.1) (by omega) (by omega) (by simp only []; omega)
    omega
  · rw [show (min z.2.2.2.2.2 27).toNat = 0 by omega]
    simp only [lp]
    omega
theorem mt2_c (ht : zT t) (c : Int → Int) (z : zSS) : mt2 im t c z (t + 1) = c := by
  have ap := zT_lt ht
  unfold mt2
  rw [sth_ne _ _ (by omega), setc_at]
theorem mt2_ne (ht : zT t) (c : Int → Int) (z : zSS) {p : Nat} (h : p ≠ t + 1) (h1 : p < 132 ∨ 137 < p) : mt2 im t c z p = im p := by
  unfold mt2
  rw [sth_ne _ _ (by omega), setc_ne _ _ h]
theorem mt2_g (c : Int → Int) (z : zSS) : gsh (mt2 im t c z) 132 = z := gsh_sth _ _ _
theorem mt2_sth (c : Int → Int) (z y : zSS) : sth (mt2 im t c z) 132 y = mt2 im t c y := sth_sth _ _ _ _
theorem mt2_setc (ht : zT t) (c e : Int → Int) (z : zSS) : setc (mt2 im t c z) (t + 1) e = mt2 im t e z := by
  have ap := zT_lt ht
  funext p
  by_cases h : p = t + 1
  · rw [h, setc_at, mt2_c ht]
  · rw [setc_ne _ _ h]
    unfold mt2
    by_cases h1 : p < 132 ∨ 137 < p
    · rw [sth_ne _ _ (by omega), sth_ne _ _ (by omega), setc_ne _ _ h, setc_ne _ _ h]
    · have g : ∀ (x x' : zM), gsh (sth x 132 z) 132 = gsh (sth x' 132 z) 132 := fun x x' => by rw [gsh_sth, gsh_sth]
      unfold sth
      have hp : p = 132 ∨ p = 133 ∨ p = 134 ∨ p = 135 ∨ p = 136 ∨ p = 137 := by omega
      have e0 : setc im (t + 1) c 132 = setc im (t + 1) e 132 := by rw [setc_ne _ _ (by omega), setc_ne _ _ (by omega)]
      rcases hp with e | e | e | e | e | e <;> rw [e] <;> simp (disch := omega) only [setc_ne, setc_at, Nat.reduceAdd]
theorem c_need2 (ht : zT t) {c w : Int → Int} {n : Int} {z : zSS} (hW : im (t + 3) = w) (hN : im t 4 = n) (hb : TB c) (hw : TW c kd) (hk : 0 ≤ kd ∧ kd < 2) (hn : n ≤ 20) : CallP (d + 4) 23 [.inr (some 131), .inr (some t), .inl a, .inl kd] (mt2 im t c z) Q ↔ Q (some (.inl (ndS c w n a kd z).1)) (mt2 im t c (ndS c w n a kd z).2) := by
  have ap := zT_lt ht
  have e3 : mt2 im t c z (t + 3) = w := by rw [mt2_ne ht _ _ (by omega) (by omega), hW]
  have e4 : mt2 im t c z t = im t := mt2_ne ht _ _ (by omega) (by omega)
  rw [c_needOf ht (by rw [mt2_c ht]; exact hb) (by rw [mt2_c ht]; exact hw) hk (by rw [e4, hN]; exact hn)]
  unfold ordG
  rw [mt2_c ht, e3, e4, hN, mt2_g, mt2_sth]
  rfl
theorem c_set2 (ht : zT t) {c : Int → Int} {z : zSS} {f : Int} (h : 0 ≤ dv ∧ dv < 20 ∧ 0 ≤ f ∧ f < 24) : CallP d 50 [.inr (some t), .inl dv, .inl f, .inl v] (mt2 im t c z) Q ↔ Q none (mt2 im t (ups c (dv * 24 + f) v) z) := by
  rw [c_set ht, if_pos h, zu_setc, mt2_c ht, mt2_setc ht]
theorem c_gal2 {c : Int → Int} {z : zSS} : CallP (d + 1) 42 [.inr (some 132)] (mt2 im t c z) Q ↔ Q (some (.inl (galS z))) (mt2 im t c z) := by
  rw [c_greatestAlign zSh_132, mt2_g]
theorem l_meas (ht : zT t) {w : Int → Int} {n : Int} (hW : im (t + 3) = w) (hN : im t 4 = n) (hk : 0 ≤ k ∧ k < 2) (hn : n ≤ 20) : ∀ (m : Nat) (y : (Int → Int) × zSS) (x4 x5 : zV), m ≤ 20 → MsOK w n k m y → ∀ Q, wp none (d + 5) 21 (zpg 21 7) [.inr (some 131), .inr (some t), .inl k, .inl ((m : Int) - 1), x4, x5] [] (mt2 im t y.1 y.2) Q ↔ Q (some (.inl (ndS (msd w n k m y).1 w n (-1) k (msd w n k m y).2).1)) (mt2 im t (msd w n k m y).1 (ndS (msd w n k m y).1 w n (-1) k (msd w n k m y).2).2)
  | 0, y, x4, x5, hm, hok, Q => by
    have k0 := (zT_k ht).1
    rw [pg_21_7]
    simp (disch := first | omega | assumption) only [en_21, wp_ireturn rk_21, pg_21_0, pg_21_84, pg_21_90, cw_22, cw_23, cw_42, cw_49, cw_50, cw_58, cw_139, wp_iload, wp_aload, wp_istore, wp_astore, wp_iinc, wp_iconst, wp_dup, wp_dup2, wp_pop, wp_iadd, wp_isub, wp_imul, wp_idiv, wp_irem, wp_ineg, wp_iand, wp_ior, wp_ixor, wp_ishl, wp_ishr, wp_getI, wp_putI, wp_getR, wp_goto, wp_goto_w, wq_if_eq, wq_if_ne, wq_if_lt, wq_if_ge, wq_if_gt, wq_if_le, wq_icmp_eq, wq_icmp_ne, wq_icmp_lt, wq_icmp_ge, wq_icmp_gt, wq_icmp_le, wp_max, wp_min, kI_inl, kR_some, kN_inl, kO_some, KT_none, KT_some, List.length_cons, List.length_nil, Nat.reduceAdd, Nat.reduceLT, Nat.reduceLeDiff, Nat.reduceMod, Nat.reduceDiv, true_and, and_true, Int.reduceLE, Int.reduceNeg, Int.reduceLT, Int.cast_ofNat_Int, Nat.zero_le, zI, Int.reduceAdd, Int.reduceSub, Int.reduceMul, not_true_eq_false, not_false_eq_true, false_implies, true_implies, i01_0, i01_1, ite_not, ↓reduceIte, zget_0, zget_1, zget_2, zget_3, zget_4, zget_5, zget_6, zget_7, zget_8, zget_9, zget_10, zset_0, zset_1, zset_2, zset_3, zset_4, zset_5, zset_6, zset_7, zset_8, zset_9, zset_10, kd_131, rf_131_0, k0, show ((0 : Nat) : Int) - 1 < 0 by omega, c_need2 ht hW hN hok.1 hok.2 hk hn, msd]
  | m + 1, y, x4, x5, hm, hok, Q => by
    have k0 := (zT_k ht).1
    have ap := zT_lt ht
    have ih := l_meas ht hW hN hk hn m
    have e1 : ((m + 1 : Nat) : Int) - 1 = m := by omega
    have e2 : (m : Int) + -1 = (m : Int) - 1 := by omega
    have e3 : mt2 im t y.1 y.2 (t + 3) = w := by rw [mt2_ne ht _ _ (by omega) (by omega), hW]
    have e4 : mt2 im t y.1 y.2 t 4 = n := by rw [mt2_ne ht _ _ (by omega) (by omega), hN]
    have l0 := layS_le (SBd_ordS (SBd_gatS (c := y.1) (w := w) (n := n) (at' := wka w n m) (z := y.2) hok.1.2.1))
    have l1 := hok.1.2.2 (wka w n m)
    have ok' := hok.2
    have en : (ndS y.1 w n (wka w n m) k y.2).1 = (layS (ordS (gatS y.1 w n (wka w n m) k y.2))).1 := rfl
    rw [pg_21_7, e1]
    by_cases hc : gt y.1 (wka w n m) 0 = 2 ∧ gt y.1 (wka w n m) 3 = 1
    · have hr : 0 ≤ wka w n m ∧ wka w n m < 20 := by
        have := hc.2
        unfold gt at this
        split at this
        · omega
        · omega
      rw [msf, if_pos hc] at ok'
      simp (disch := first | omega | assumption) only [en_21, wp_ireturn rk_21, pg_21_0, pg_21_84, pg_21_90, cw_22, cw_23, cw_42, cw_49, cw_50, cw_58, cw_139, wp_iload, wp_aload, wp_istore, wp_astore, wp_iinc, wp_iconst, wp_dup, wp_dup2, wp_pop, wp_iadd, wp_isub, wp_imul, wp_idiv, wp_irem, wp_ineg, wp_iand, wp_ior, wp_ixor, wp_ishl, wp_ishr, wp_getI, wp_putI, wp_getR, wp_goto, wp_goto_w, wq_if_eq, wq_if_ne, wq_if_lt, wq_if_ge, wq_if_gt, wq_if_le, wq_icmp_eq, wq_icmp_ne, wq_icmp_lt, wq_icmp_ge, wq_icmp_gt, wq_icmp_le, wp_max, wp_min, kI_inl, kR_some, kN_inl, kO_some, KT_none, KT_some, List.length_cons, List.length_nil, Nat.reduceAdd, Nat.reduceLT, Nat.reduceLeDiff, Nat.reduceMod, Nat.reduceDiv, true_and, and_true, Int.reduceLE, Int.reduceNeg, Int.reduceLT, Int.cast_ofNat_Int, Nat.zero_le, zI, Int.reduceAdd, Int.reduceSub, Int.reduceMul, not_true_eq_false, not_false_eq_true, false_implies, true_implies, i01_0, i01_1, ite_not, ↓reduceIte, zget_0, zget_1, zget_2, zget_3, zget_4, zget_5, zget_6, zget_7, zget_8, zget_9, zget_10, zset_0, zset_1, zset_2, zset_3, zset_4, zset_5, zset_6, zset_7, zset_8, zset_9, zset_10, kd_131, kd_132, rf_131_0, k0, e2, show ¬ (m : Int) < 0 by omega, c_walkAt ht, c_isOnBridge ht, mt2_c ht, e3, e4, hc, c_need2 ht hW hN hok.1.1 hok.1.2.1 hk hn, c_get ht, c_set2 ht, c_roundUp, c_gal2, ih, msd, msf, and_self, if_true]
      simp only [show ¬ (1 : Int) = 0 by omega, if_false]
      rw [← en] at l0
      repeat (refine (and_iff_right (by omega)).trans ?_)
      exact ih (_, _) _ _ (by omega) ok' Q
    · rw [msf, if_neg hc] at ok'
      simp (disch := first | omega | assumption) only [en_21, wp_ireturn rk_21, pg_21_0, pg_21_84, pg_21_90, cw_22, cw_23, cw_42, cw_49, cw_50, cw_58, cw_139, wp_iload, wp_aload, wp_istore, wp_astore, wp_iinc, wp_iconst, wp_dup, wp_dup2, wp_pop, wp_iadd, wp_isub, wp_imul, wp_idiv, wp_irem, wp_ineg, wp_iand, wp_ior, wp_ixor, wp_ishl, wp_ishr, wp_getI, wp_putI, wp_getR, wp_goto, wp_goto_w, wq_if_eq, wq_if_ne, wq_if_lt, wq_if_ge, wq_if_gt, wq_if_le, wq_icmp_eq, wq_icmp_ne, wq_icmp_lt, wq_icmp_ge, wq_icmp_gt, wq_icmp_le, wp_max, wp_min, kI_inl, kR_some, kN_inl, kO_some, KT_none, KT_some, List.length_cons, List.length_nil, Nat.reduceAdd, Nat.reduceLT, Nat.reduceLeDiff, Nat.reduceMod, Nat.reduceDiv, true_and, and_true, Int.reduceLE, Int.reduceNeg, Int.reduceLT, Int.cast_ofNat_Int, Nat.zero_le, zI, Int.reduceAdd, Int.reduceSub, Int.reduceMul, not_true_eq_false, not_false_eq_true, false_implies, true_implies, i01_0, i01_1, ite_not, ↓reduceIte, zget_0, zget_1, zget_2, zget_3, zget_4, zget_5, zget_6, zget_7, zget_8, zget_9, zget_10, zset_0, zset_1, zset_2, zset_3, zset_4, zset_5, zset_6, zset_7, zset_8, zset_9, zset_10, kd_131, kd_132, rf_131_0, k0, e2, show ¬ (m : Int) < 0 by omega, c_walkAt ht, c_isOnBridge ht, mt2_c ht, e3, e4, hc, ih, msd, msf, if_false]
      repeat (refine (and_iff_right (by omega)).trans ?_)
      exact Iff.rfl
theorem mt2_self (im : zM) (t : Nat) : mt2 im t (im (t + 1)) (gsh im 132) = im := by
  unfold mt2
  rw [setc_self, sth_gsh]
theorem c_measure (ht : zT t) (hk : 0 ≤ k ∧ k < 2) (hn : 0 ≤ im t 4 ∧ im t 4 ≤ 20) {y : (Int → Int) × zSS} (hy : y = msd (im (t + 3)) (im t 4) k (im t 4).toNat (im (t + 1), gsh im 132)) (hok : MsOK (im (t + 3)) (im t 4) k (im t 4).toNat (im (t + 1), gsh im 132)) : CallP (d + 5) 21 [.inr (some 131), .inr (some t), .inl k] im Q ↔ Q (some (.inl (ndS y.1 (im (t + 3)) (im t 4) (-1) k y.2).1)) (mt2 im t y.1 (ndS y.1 (im (t + 3)) (im t 4) (-1) k y.2).2) := by
  have k0 := (zT_k ht).1
  have hl := l_meas (d := d) ht rfl rfl hk hn.2 (im t 4).toNat (im (t + 1), gsh im 132) (.inr none) (.inr none) (by omega) hok
  have e : (((im t 4).toNat : Nat) : Int) = im t 4 := by omega
  rw [e] at hl
  simp only [mt2_self, ← hy] at hl
  simp (disch := first | omega | assumption) only [en_21, wp_ireturn rk_21, pg_21_0, pg_21_84, pg_21_90, cw_22, cw_23, cw_42, cw_49, cw_50, cw_58, cw_139, wp_iload, wp_aload, wp_istore, wp_astore, wp_iinc, wp_iconst, wp_dup, wp_dup2, wp_pop, wp_iadd, wp_isub, wp_imul, wp_idiv, wp_irem, wp_ineg, wp_iand, wp_ior, wp_ixor, wp_ishl, wp_ishr, wp_getI, wp_putI, wp_getR, wp_goto, wp_goto_w, wq_if_eq, wq_if_ne, wq_if_lt, wq_if_ge, wq_if_gt, wq_if_le, wq_icmp_eq, wq_icmp_ne, wq_icmp_lt, wq_icmp_ge, wq_icmp_gt, wq_icmp_le, wp_max, wp_min, kI_inl, kR_some, kN_inl, kO_some, KT_none, KT_some, List.length_cons, List.length_nil, Nat.reduceAdd, Nat.reduceLT, Nat.reduceLeDiff, Nat.reduceMod, Nat.reduceDiv, true_and, and_true, Int.reduceLE, Int.reduceNeg, Int.reduceLT, Int.cast_ofNat_Int, Nat.zero_le, zI, Int.reduceAdd, Int.reduceSub, Int.reduceMul, not_true_eq_false, not_false_eq_true, false_implies, true_implies, i01_0, i01_1, ite_not, ↓reduceIte, zget_0, zget_1, zget_2, zget_3, zget_4, zget_5, zget_6, zget_7, zget_8, zget_9, zget_10, zset_0, zset_1, zset_2, zset_3, zset_4, zset_5, zset_6, zset_7, zset_8, zset_9, zset_10, k0, hl]
  refine (and_iff_right (by omega)).trans ?_
  exact Iff.rfl
end PM
