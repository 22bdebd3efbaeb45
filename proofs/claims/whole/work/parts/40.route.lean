/-! THE CLASS'S ROUTE -/
section RO
variable {d s t u o : Nat} {im : zM} {Q : Option zV → zM → Prop} {a b v dv kd sl i j k f ad : Int}
theorem zSh_165 : zSh 165 := by decide
theorem kd_165 : K0[165]? = some (7, 0) := (zSh_k zSh_165).1
theorem c_holds (ht : zT t) (hk : 0 ≤ k ∧ k < 2) (had : -2147483648 ≤ ad ∧ ad ≤ 2147483647) : CallP (d + 2) 29 [.inr (some t), .inl a, .inl k, .inl ad] im Q ↔ Q (some (.inl (if 0 ≤ begf (im (t + 1)) a k ∧ begf (im (t + 1)) a k ≤ ad ∧ ad - begf (im (t + 1)) a k < lenf (im (t + 1)) (im (t + 2)) a k then 1 else 0))) im := by
  have k0 := (zT_k ht).1
  simp (disch := omega) only [en_29, wp_zreturn rk_29, pg_29_0, pg_29_36, pg_29_37, cw_59, cw_60, wp_iload, wp_aload, wp_istore, wp_astore, wp_iinc, wp_iconst, wp_dup, wp_dup2, wp_pop, wp_iadd, wp_isub, wp_imul, wp_idiv, wp_irem, wp_ineg, wp_iand, wp_ior, wp_ixor, wp_ishl, wp_ishr, wp_getI, wp_putI, wp_getR, wp_goto, wp_goto_w, wq_if_eq, wq_if_ne, wq_if_lt, wq_if_ge, wq_if_gt, wq_if_le, wq_icmp_eq, wq_icmp_ne, wq_icmp_lt, wq_icmp_ge, wq_icmp_gt, wq_icmp_le, wp_max, wp_min, kI_inl, kR_some, kN_inl, kO_some, KT_none, KT_some, List.length_cons, List.length_nil, Nat.reduceAdd, Nat.reduceLT, Nat.reduceLeDiff, Nat.reduceMod, Nat.reduceDiv, true_and, and_true, Int.reduceLE, Int.reduceNeg, Int.reduceLT, Int.cast_ofNat_Int, Nat.zero_le, zI, Int.reduceAdd, Int.reduceSub, Int.reduceMul, not_true_eq_false, not_false_eq_true, false_implies, true_implies, i01_0, i01_1, ite_not, ↓reduceIte, zget_0, zget_1, zget_2, zget_3, zget_4, zget_5, zget_6, zget_7, zget_8, zget_9, zget_10, zset_0, zset_1, zset_2, zset_3, zset_4, zset_5, zset_6, zset_7, zset_8, zset_9, zset_10, k0, c_begin ht, c_length ht]
  clear k0
  grind (splits := 20)
def rt (im : zM) (z : zSS) (e : Int → Int) : zM := sth (setc im 164 e) 165 z
theorem zT_124 (h : zT t) : t + 4 ≤ 124 := by
  have h0 : zTl.all (fun t => decide (t + 4 ≤ 124)) = true := by decide +kernel
  exact of_decide_eq_true (List.all_eq_true.mp h0 t h)
theorem rt_ne {z : zSS} {e : Int → Int} {p : Nat} (h : p < 164 ∨ 170 < p) : rt im z e p = im p := by
  unfold rt
  rw [sth_ne _ _ (by omega), setc_ne _ _ (by omega)]
theorem rt_e {z : zSS} {e : Int → Int} : rt im z e 164 = e := by
  unfold rt
  rw [sth_ne _ _ (by omega), setc_at]
theorem rt_g {z : zSS} {e : Int → Int} : gsh (rt im z e) 165 = z := gsh_sth _ _ _
theorem rt_sth {z y : zSS} {e : Int → Int} : sth (rt im z e) 165 y = rt im y e := sth_sth _ _ _ _
theorem rt_setc {z : zSS} {e e' : Int → Int} : setc (rt im z e) 164 e' = rt im z e' := by
  funext p
  by_cases h : p = 164
  · rw [h, setc_at, rt_e]
  · rw [setc_ne _ _ h]
    unfold rt sth
    by_cases h1 : p < 165 ∨ 170 < p
    · simp (disch := omega) only [setc_ne]
    · have hp : p = 165 ∨ p = 166 ∨ p = 167 ∨ p = 168 ∨ p = 169 ∨ p = 170 := by omega
      rcases hp with e | e | e | e | e | e <;> rw [e] <;> simp (disch := omega) only [setc_ne, setc_at, Nat.reduceAdd]
noncomputable def snS (c w : Int → Int) (n k ad : Int) : Nat → Int → Int → zSS × (Int → Int) → Int × (zSS × (Int → Int))
  | 0, _, _, y => (1, y)
  | m + 1, lv, a, y =>
    if holdS (gatS c w n a k y.1) ad = -1 then ((if 0 < lv then 1 else 0), (gatS c w n a k y.1, y.2))
    else if (gatS c w n a k y.1).2.1 (holdS (gatS c w n a k y.1) ad) = -1 then snS c w n k ad m (lv + 1) ((gatS c w n a k y.1).1 (holdS (gatS c w n a k y.1) ad)) (gatS c w n a k y.1, ups y.2 2 (y.2 2 + 1))
    else (1, (gatS c w n a k y.1, ups y.2 1 ((gatS c w n a k y.1).1 (holdS (gatS c w n a k y.1) ad))))
def SBz (z : zSS) : Prop := ∀ i : Int, 0 ≤ i → i < 27 → i < z.2.2.2.2.2 → (-1 ≤ z.2.2.2.2.1 i ∧ z.2.2.2.2.1 i ≤ 1000000000) ∧ (0 ≤ z.2.2.2.1 i ∧ z.2.2.2.1 i ≤ 33554432)
def SnOK (c w : Int → Int) (n k : Int) : Prop := ∀ a z, SBz (gatS c w n a k z)
theorem hdf_cases (ap bs sz : Int → Int) (ad : Int) : ∀ (n : Nat) (i x : Int), 0 ≤ i → hdf ap bs sz ad n i x = x ∨ (i ≤ hdf ap bs sz ad n i x ∧ hdf ap bs sz ad n i x < i + n)
  | 0, i, x, h => Or.inl rfl
  | n + 1, i, x, h => by
    simp only [hdf]
    split
    · split
      · rcases hdf_cases ap bs sz ad n (i + 1) i (by omega) with h1 | h1
        · rw [h1]
          omega
        · omega
      · omega
    · rcases hdf_cases ap bs sz ad n (i + 1) x (by omega) with h1 | h1
      · exact Or.inl h1
      · omega
theorem holdS_cases (z : zSS) (ad : Int) : holdS z ad = -1 ∨ (0 ≤ holdS z ad ∧ holdS z ad < 27) := by
  have h := hdf_cases z.2.1 z.2.2.2.2.1 z.2.2.2.1 ad (min z.2.2.2.2.2 27).toNat 0 (-1) (by omega)
  have e : holdS z ad = hdf z.2.1 z.2.2.2.2.1 z.2.2.2.1 ad (min z.2.2.2.2.2 27).toNat 0 (-1) := rfl
  rw [e]
  omega
theorem l_sink (ht : zT t) {c w : Int → Int} {n : Int} {x2 : zV} (hC : im (t + 1) = c) (hW : im (t + 3) = w) (hN : im t 4 = n) (hn : n ≤ 20) (hb : TB c) (hk : 0 ≤ k ∧ k < 2) (had : -2147483648 ≤ ad ∧ ad ≤ 2147483647) (hok : SnOK c w n k) : ∀ (m : Nat) (lv a : Int) (y : zSS × (Int → Int)) (x7 : zV), 0 ≤ lv → lv + m = 5 → 0 ≤ y.2 2 ∧ y.2 2 ≤ 1000000 - m → ∀ Q, wp none (d + 4) 30 (zpg 30 6) [.inr (some 164), .inr (some t), x2, .inl k, .inl ad, .inl a, .inl lv, x7] [] (rt im y.1 y.2) Q ↔ Q (some (.inl (snS c w n k ad m lv a y).1)) (rt im (snS c w n k ad m lv a y).2.1 (snS c w n k ad m lv a y).2.2)
  | 0, lv, a, y, x7, h0, h1, hy, Q => by
    rw [pg_30_6]
    simp (disch := omega) only [wp_zreturn rk_30, pg_30_46, pg_30_55, pg_30_56, pg_30_57, pg_30_87, pg_30_115, cw_33, cw_45, wp_iload, wp_aload, wp_istore, wp_astore, wp_iinc, wp_iconst, wp_dup, wp_dup2, wp_pop, wp_iadd, wp_isub, wp_imul, wp_idiv, wp_irem, wp_ineg, wp_iand, wp_ior, wp_ixor, wp_ishl, wp_ishr, wp_getI, wp_putI, wp_getR, wp_goto, wp_goto_w, wq_if_eq, wq_if_ne, wq_if_lt, wq_if_ge, wq_if_gt, wq_if_le, wq_icmp_eq, wq_icmp_ne, wq_icmp_lt, wq_icmp_ge, wq_icmp_gt, wq_icmp_le, wp_max, wp_min, kI_inl, kR_some, kN_inl, kO_some, KT_none, KT_some, List.length_cons, List.length_nil, Nat.reduceAdd, Nat.reduceLT, Nat.reduceLeDiff, Nat.reduceMod, Nat.reduceDiv, true_and, and_true, Int.reduceLE, Int.reduceNeg, Int.reduceLT, Int.cast_ofNat_Int, Nat.zero_le, zI, Int.reduceAdd, Int.reduceSub, Int.reduceMul, not_true_eq_false, not_false_eq_true, false_implies, true_implies, i01_0, i01_1, ite_not, ↓reduceIte, zget_0, zget_1, zget_2, zget_3, zget_4, zget_5, zget_6, zget_7, zget_8, zget_9, zget_10, zset_0, zset_1, zset_2, zset_3, zset_4, zset_5, zset_6, zset_7, zset_8, zset_9, zset_10, show 4 < lv by omega, if_true, snS, true_or, or_true]
  | m + 1, lv, a, y, x7, h0, h1, hy, Q => by
    have k0 := (zT_k ht).1
    have ap := zT_124 ht
    have ih := l_sink ht (x2 := x2) hC hW hN hn hb hk had hok m (lv + 1)
    have eC : ∀ z e, rt im z e (t + 1) = c := fun z e => by rw [rt_ne (by omega), hC]
    have eW : ∀ z e, rt im z e (t + 3) = w := fun z e => by rw [rt_ne (by omega), hW]
    have eN : ∀ z e, rt im z e t 4 = n := fun z e => by rw [rt_ne (by omega), hN]
    have hgt := fun (Q) => c_gather (d := d) (im := rt im y.1 y.2) (Q := Q) (a := a) (kd := k) ht zSh_165 (by rw [eC]; exact hb) hk (by rw [eN]; exact hn)
    have hho := fun (Q) => c_holder (d := d + 3) (im := rt im (gatS c w n a k y.1) y.2) (Q := Q) zSh_165 (hok a y.1) had
    simp only [eC, eW, eN, rt_g, rt_sth] at hgt hho
    have k1 : K0[166]? = some (0, 27) := (zSh_k zSh_165).2.1
    have k2 : K0[167]? = some (0, 27) := (zSh_k zSh_165).2.2.1
    have r0 : R0 165 0 = some 166 := (zSh_r0 _ zSh_165).1
    have r1 : R0 165 1 = some 167 := (zSh_r0 _ zSh_165).2.1
    have m1 : ∀ z e, rt im z e 166 = z.1 := fun z e => sth_1 _ 165 _
    have m2 : ∀ z e, rt im z e 167 = z.2.1 := fun z e => sth_2 _ 165 _
    rw [pg_30_6]
    rcases holdS_cases (gatS c w n a k y.1) ad with hm | hm
    · simp (disch := omega) only [wp_zreturn rk_30, pg_30_46, pg_30_55, pg_30_56, pg_30_57, pg_30_87, pg_30_115, cw_33, cw_45, wp_iload, wp_aload, wp_istore, wp_astore, wp_iinc, wp_iconst, wp_dup, wp_dup2, wp_pop, wp_iadd, wp_isub, wp_imul, wp_idiv, wp_irem, wp_ineg, wp_iand, wp_ior, wp_ixor, wp_ishl, wp_ishr, wp_getI, wp_putI, wp_getR, wp_goto, wp_goto_w, wq_if_eq, wq_if_ne, wq_if_lt, wq_if_ge, wq_if_gt, wq_if_le, wq_icmp_eq, wq_icmp_ne, wq_icmp_lt, wq_icmp_ge, wq_icmp_gt, wq_icmp_le, wp_max, wp_min, kI_inl, kR_some, kN_inl, kO_some, KT_none, KT_some, List.length_cons, List.length_nil, Nat.reduceAdd, Nat.reduceLT, Nat.reduceLeDiff, Nat.reduceMod, Nat.reduceDiv, true_and, and_true, Int.reduceLE, Int.reduceNeg, Int.reduceLT, Int.cast_ofNat_Int, Nat.zero_le, zI, Int.reduceAdd, Int.reduceSub, Int.reduceMul, not_true_eq_false, not_false_eq_true, false_implies, true_implies, i01_0, i01_1, ite_not, ↓reduceIte, zget_0, zget_1, zget_2, zget_3, zget_4, zget_5, zget_6, zget_7, zget_8, zget_9, zget_10, zset_0, zset_1, zset_2, zset_3, zset_4, zset_5, zset_6, zset_7, zset_8, zset_9, zset_10, kd_164, rf_164_0, kd_165, k0, show ¬ 4 < lv by omega, if_false, hgt, hho, hm, snS, if_true]
      clear ih hgt hho
      grind (splits := 20)
    · simp (disch := omega) only [wp_zreturn rk_30, pg_30_46, pg_30_55, pg_30_56, pg_30_57, pg_30_87, pg_30_115, cw_33, cw_45, wp_iload, wp_aload, wp_istore, wp_astore, wp_iinc, wp_iconst, wp_dup, wp_dup2, wp_pop, wp_iadd, wp_isub, wp_imul, wp_idiv, wp_irem, wp_ineg, wp_iand, wp_ior, wp_ixor, wp_ishl, wp_ishr, wp_getI, wp_putI, wp_getR, wp_goto, wp_goto_w, wq_if_eq, wq_if_ne, wq_if_lt, wq_if_ge, wq_if_gt, wq_if_le, wq_icmp_eq, wq_icmp_ne, wq_icmp_lt, wq_icmp_ge, wq_icmp_gt, wq_icmp_le, wp_max, wp_min, kI_inl, kR_some, kN_inl, kO_some, KT_none, KT_some, List.length_cons, List.length_nil, Nat.reduceAdd, Nat.reduceLT, Nat.reduceLeDiff, Nat.reduceMod, Nat.reduceDiv, true_and, and_true, Int.reduceLE, Int.reduceNeg, Int.reduceLT, Int.cast_ofNat_Int, Nat.zero_le, zI, Int.reduceAdd, Int.reduceSub, Int.reduceMul, not_true_eq_false, not_false_eq_true, false_implies, true_implies, i01_0, i01_1, ite_not, ↓reduceIte, zget_0, zget_1, zget_2, zget_3, zget_4, zget_5, zget_6, zget_7, zget_8, zget_9, zget_10, zset_0, zset_1, zset_2, zset_3, zset_4, zset_5, zset_6, zset_7, zset_8, zset_9, zset_10, kd_164, rf_164_0, kd_165, k0, show ¬ 4 < lv by omega, if_false, hgt, hho, show ¬ holdS (gatS c w n a k y.1) ad < 0 by omega, show ¬ holdS (gatS c w n a k y.1) ad = -1 by omega, show holdS (gatS c w n a k y.1) ad < 27 by omega, if_true, snS, r0, r1, m1, m2, wp_iaload k1, wp_iaload k2, rt_e, zu_setc, rt_setc, true_or, or_true]
      clear hgt hho
      refine (and_iff_right hm.1).trans ?_
      by_cases h2 : (gatS c w n a k y.1).2.1 (holdS (gatS c w n a k y.1) ad) = -1
      · simp only [h2, if_true]
        repeat (refine (and_iff_right (by omega)).trans ?_)
        exact ih ((gatS c w n a k y.1).1 (holdS (gatS c w n a k y.1) ad)) (gatS c w n a k y.1, ups y.2 2 (y.2 2 + 1)) _ (by omega) (by omega) (by simp only [ups_at]; omega) Q
      · simp only [h2, if_false]
        repeat (refine (and_iff_right (by omega)).trans ?_)
        exact Iff.rfl
theorem c_sink (ht : zT t) {c w : Int → Int} {n : Int} (hC : im (t + 1) = c) (hW : im (t + 3) = w) (hN : im t 4 = n) (hn : n ≤ 20) (hb : TB c) (hk : 0 ≤ k ∧ k < 2) (had : -2147483648 ≤ ad ∧ ad ≤ 2147483647) (hok : SnOK c w n k) {y : zSS × (Int → Int)} (hy : 0 ≤ y.2 2 ∧ y.2 2 ≤ 999900) : CallP (d + 4) 30 [.inr (some 164), .inr (some t), .inl a, .inl k, .inl ad] (rt im y.1 y.2) Q ↔ Q (some (.inl (snS c w n k ad 5 0 a y).1)) (rt im (snS c w n k ad 5 0 a y).2.1 (snS c w n k ad 5 0 a y).2.2) := by
  have hl := l_sink (d := d) (x2 := .inl a) ht hC hW hN hn hb hk had hok 5 0 a y (.inr none) (by omega) (by omega) (by omega) Q
  simp (disch := omega) only [en_30, wp_zreturn rk_30, pg_30_0, pg_30_46, pg_30_55, pg_30_56, pg_30_57, pg_30_87, pg_30_115, cw_33, cw_45, wp_iload, wp_aload, wp_istore, wp_astore, wp_iinc, wp_iconst, wp_dup, wp_dup2, wp_pop, wp_iadd, wp_isub, wp_imul, wp_idiv, wp_irem, wp_ineg, wp_iand, wp_ior, wp_ixor, wp_ishl, wp_ishr, wp_getI, wp_putI, wp_getR, wp_goto, wp_goto_w, wq_if_eq, wq_if_ne, wq_if_lt, wq_if_ge, wq_if_gt, wq_if_le, wq_icmp_eq, wq_icmp_ne, wq_icmp_lt, wq_icmp_ge, wq_icmp_gt, wq_icmp_le, wp_max, wp_min, kI_inl, kR_some, kN_inl, kO_some, KT_none, KT_some, List.length_cons, List.length_nil, Nat.reduceAdd, Nat.reduceLT, Nat.reduceLeDiff, Nat.reduceMod, Nat.reduceDiv, true_and, and_true, Int.reduceLE, Int.reduceNeg, Int.reduceLT, Int.cast_ofNat_Int, Nat.zero_le, zI, Int.reduceAdd, Int.reduceSub, Int.reduceMul, not_true_eq_false, not_false_eq_true, false_implies, true_implies, i01_0, i01_1, ite_not, ↓reduceIte, zget_0, zget_1, zget_2, zget_3, zget_4, zget_5, zget_6, zget_7, zget_8, zget_9, zget_10, zset_0, zset_1, zset_2, zset_3, zset_4, zset_5, zset_6, zset_7, zset_8, zset_9, zset_10]
  exact hl
theorem rt_self (im : zM) : rt im (gsh im 165) (im 164) = im := by
  unfold rt
  rw [setc_self, sth_gsh]
theorem snS_01 {c w : Int → Int} {n : Int} : ∀ (m : Nat) (lv a : Int) (y : zSS × (Int → Int)), (snS c w n k ad m lv a y).1 = 0 ∨ (snS c w n k ad m lv a y).1 = 1
  | 0, lv, a, y => Or.inr rfl
  | m + 1, lv, a, y => by
    simp only [snS]
    split
    · split
      · exact Or.inr rfl
      · exact Or.inl rfl
    · split
      · exact snS_01 m _ _ _
      · exact Or.inr rfl
def dse (e : Int → Int) (a : Int) : Int → Int := ups (ups (ups e 1 (-1)) 2 0) 3 a
theorem c_descend (ht : zT t) (hn : im t 4 ≤ 20) (hb : TB (im (t + 1))) (hk : 0 ≤ k ∧ k < 2) (had : -2147483648 ≤ ad ∧ ad ≤ 2147483647) (hok : SnOK (im (t + 1)) (im (t + 3)) (im t 4) k) {r : Int × (zSS × (Int → Int))} (hr : r = snS (im (t + 1)) (im (t + 3)) (im t 4) k ad 5 0 a (gsh im 165, dse (im 164) a)) : CallP (d + 5) 27 [.inr (some 164), .inr (some t), .inl a, .inl k, .inl ad] im Q ↔ Q (some (.inl r.1)) (rt im r.2.1 r.2.2) := by
  have k0 := (zT_k ht).1
  have hs := fun Q => c_sink (d := d) (im := im) (a := a) (Q := Q) ht rfl rfl rfl hn hb hk had hok (y := (gsh im 165, dse (im 164) a)) (by simp only [dse]; rw [ups_ne _ _ (by omega), ups_at]; omega)
  have es : setc im 164 (dse (im 164) a) = rt im (gsh im 165) (dse (im 164) a) := by
    have := rt_setc (im := im) (z := gsh im 165) (e := im 164) (e' := dse (im 164) a)
    rw [rt_self] at this
    exact this
  have h01 := snS_01 (c := im (t + 1)) (w := im (t + 3)) (n := im t 4) (k := k) (ad := ad) 5 0 a (gsh im 165, dse (im 164) a)
  rw [← hr] at h01
  simp only [← hr] at hs
  simp (disch := omega) only [en_27, wp_zreturn rk_27, pg_27_0, cw_30, wp_iload, wp_aload, wp_istore, wp_astore, wp_iinc, wp_iconst, wp_dup, wp_dup2, wp_pop, wp_iadd, wp_isub, wp_imul, wp_idiv, wp_irem, wp_ineg, wp_iand, wp_ior, wp_ixor, wp_ishl, wp_ishr, wp_getI, wp_putI, wp_getR, wp_goto, wp_goto_w, wq_if_eq, wq_if_ne, wq_if_lt, wq_if_ge, wq_if_gt, wq_if_le, wq_icmp_eq, wq_icmp_ne, wq_icmp_lt, wq_icmp_ge, wq_icmp_gt, wq_icmp_le, wp_max, wp_min, kI_inl, kR_some, kN_inl, kO_some, KT_none, KT_some, List.length_cons, List.length_nil, Nat.reduceAdd, Nat.reduceLT, Nat.reduceLeDiff, Nat.reduceMod, Nat.reduceDiv, true_and, and_true, Int.reduceLE, Int.reduceNeg, Int.reduceLT, Int.cast_ofNat_Int, Nat.zero_le, zI, Int.reduceAdd, Int.reduceSub, Int.reduceMul, not_true_eq_false, not_false_eq_true, false_implies, true_implies, i01_0, i01_1, ite_not, ↓reduceIte, zget_0, zget_1, zget_2, zget_3, zget_4, zget_5, zget_6, zget_7, zget_8, zget_9, zget_10, zset_0, zset_1, zset_2, zset_3, zset_4, zset_5, zset_6, zset_7, zset_8, zset_9, zset_10, kd_164, k0, zu_setc, setc_at, setc_setc]
  rw [show ups (ups (ups (im 164) 1 (-1)) 2 0) 3 a = dse (im 164) a from rfl, es]
  simp (disch := omega) only [wp_iload, wp_aload, wp_istore, wp_astore, wp_iinc, wp_iconst, wp_dup, wp_dup2, wp_pop, wp_iadd, wp_isub, wp_imul, wp_idiv, wp_irem, wp_ineg, wp_iand, wp_ior, wp_ixor, wp_ishl, wp_ishr, wp_getI, wp_putI, wp_getR, wp_goto, wp_goto_w, wq_if_eq, wq_if_ne, wq_if_lt, wq_if_ge, wq_if_gt, wq_if_le, wq_icmp_eq, wq_icmp_ne, wq_icmp_lt, wq_icmp_ge, wq_icmp_gt, wq_icmp_le, wp_max, wp_min, kI_inl, kR_some, kN_inl, kO_some, KT_none, KT_some, List.length_cons, List.length_nil, Nat.reduceAdd, Nat.reduceLT, Nat.reduceLeDiff, Nat.reduceMod, Nat.reduceDiv, true_and, and_true, Int.reduceLE, Int.reduceNeg, Int.reduceLT, Int.cast_ofNat_Int, Nat.zero_le, zI, Int.reduceAdd, Int.reduceSub, Int.reduceMul, not_true_eq_false, not_false_eq_true, false_implies, true_implies, i01_0, i01_1, ite_not, ↓reduceIte, zget_0, zget_1, zget_2, zget_3, zget_4, zget_5, zget_6, zget_7, zget_8, zget_9, zget_10, zset_0, zset_1, zset_2, zset_3, zset_4, zset_5, zset_6, zset_7, zset_8, zset_9, zset_10, hs, wp_zreturn rk_27, h01]
theorem snS_2 {c w : Int → Int} {n : Int} : ∀ (m : Nat) (lv a : Int) (y : zSS × (Int → Int)), y.2 2 ≤ (snS c w n k ad m lv a y).2.2 2 ∧ (snS c w n k ad m lv a y).2.2 2 ≤ y.2 2 + m ∧ (snS c w n k ad m lv a y).2.2 3 = y.2 3
  | 0, lv, a, y => by
    refine ⟨Int.le_refl _, ?_, rfl⟩
    show y.2 2 ≤ y.2 2 + ((0 : Nat) : Int)
    omega
  | m + 1, lv, a, y => by
    simp only [snS]
    split
    · dsimp only
      omega
    · split
      · have h := snS_2 (c := c) (w := w) (n := n) m (lv + 1) ((gatS c w n a k y.1).1 (holdS (gatS c w n a k y.1) ad)) (gatS c w n a k y.1, ups y.2 2 (y.2 2 + 1))
        simp only [ups_at, ups_ne y.2 (y.2 2 + 1) (show (3 : Int) ≠ 2 by omega)] at h
        omega
      · dsimp only
        rw [ups_ne _ _ (by omega), ups_ne _ _ (by omega)]
        omega
end RO
