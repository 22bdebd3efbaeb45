/-! THE CLASS'S ROUTE: climbing -/
section RC
variable {d s t u o : Nat} {im : zM} {Q : Option zV → zM → Prop} {a b v dv kd sl i j k f ad : Int}
abbrev hdB (c sp : Int → Int) (a k ad : Int) : Prop := 0 ≤ begf c a k ∧ begf c a k ≤ ad ∧ ad - begf c a k < lenf c sp a k
noncomputable def clS (c w sp : Int → Int) (n k ad : Int) : Nat → zSS × (Int → Int) → zSS × (Int → Int)
  | 0, y => y
  | m + 1, y => if (snS c w n k ad 5 0 (y.2 3) y).1 = 1 ∨ y.2 3 = -1 ∨ hdB c sp (y.2 3) k ad then (snS c w n k ad 5 0 (y.2 3) y).2 else clS c w sp n k ad m ((snS c w n k ad 5 0 (y.2 3) y).2.1, ups (ups (snS c w n k ad 5 0 (y.2 3) y).2.2 2 ((snS c w n k ad 5 0 (y.2 3) y).2.2 2 + 1)) 3 (gt c (y.2 3) 1))
theorem l_climb (ht : zT t) {c w sp : Int → Int} {n : Int} {x2 : zV} (hC : im (t + 1) = c) (hS : im (t + 2) = sp) (hW : im (t + 3) = w) (hN : im t 4 = n) (hn : n ≤ 20) (hb : TB c) (hk : 0 ≤ k ∧ k < 2) (had : -2147483648 ≤ ad ∧ ad ≤ 2147483647) (hok : SnOK c w n k) : ∀ (m : Nat) (lv : Int) (y : zSS × (Int → Int)), 0 ≤ lv → lv + m = 5 → 0 ≤ y.2 2 ∧ y.2 2 ≤ 900000 - 6 * m → ∀ Q, wp none (d + 5) 28 (zpg 28 18) [.inr (some 164), .inr (some t), x2, .inl k, .inl ad, .inl lv] [] (rt im y.1 y.2) Q ↔ Q none (rt im (clS c w sp n k ad m y).1 (clS c w sp n k ad m y).2)
  | 0, lv, y, h0, h1, hy, Q => by
    rw [pg_28_18]
    simp (disch := omega) only [en_28, wp_return rk_28, pg_28_0, pg_28_61, pg_28_62, pg_28_91, cw_29, cw_30, cw_49, wp_iload, wp_aload, wp_istore, wp_astore, wp_iinc, wp_iconst, wp_dup, wp_dup2, wp_pop, wp_iadd, wp_isub, wp_imul, wp_idiv, wp_irem, wp_ineg, wp_iand, wp_ior, wp_ixor, wp_ishl, wp_ishr, wp_getI, wp_putI, wp_getR, wp_goto, wp_goto_w, wq_if_eq, wq_if_ne, wq_if_lt, wq_if_ge, wq_if_gt, wq_if_le, wq_icmp_eq, wq_icmp_ne, wq_icmp_lt, wq_icmp_ge, wq_icmp_gt, wq_icmp_le, wp_max, wp_min, kI_inl, kR_some, kN_inl, kO_some, KT_none, KT_some, List.length_cons, List.length_nil, Nat.reduceAdd, Nat.reduceLT, Nat.reduceLeDiff, Nat.reduceMod, Nat.reduceDiv, true_and, and_true, Int.reduceLE, Int.reduceNeg, Int.reduceLT, Int.cast_ofNat_Int, Nat.zero_le, zI, Int.reduceAdd, Int.reduceSub, Int.reduceMul, not_true_eq_false, not_false_eq_true, false_implies, true_implies, i01_0, i01_1, ite_not, ↓reduceIte, zget_0, zget_1, zget_2, zget_3, zget_4, zget_5, zget_6, zget_7, zget_8, zget_9, zget_10, zset_0, zset_1, zset_2, zset_3, zset_4, zset_5, zset_6, zset_7, zset_8, zset_9, zset_10, show 4 < lv by omega, if_true, clS]
  | m + 1, lv, y, h0, h1, hy, Q => by
    have k0 := (zT_k ht).1
    have ap := zT_124 ht
    have ih := l_climb ht (x2 := x2) hC hS hW hN hn hb hk had hok m (lv + 1)
    have eC : ∀ z e, rt im z e (t + 1) = c := fun z e => by rw [rt_ne (by omega), hC]
    have eS : ∀ z e, rt im z e (t + 2) = sp := fun z e => by rw [rt_ne (by omega), hS]
    have hs := fun Q => c_sink (d := d) (im := im) (a := y.2 3) (Q := Q) ht hC hW hN hn hb hk had hok (y := y) (by omega)
    have h01 := snS_01 (c := c) (w := w) (n := n) (k := k) (ad := ad) 5 0 (y.2 3) y
    have h2 := snS_2 (c := c) (w := w) (n := n) (k := k) (ad := ad) 5 0 (y.2 3) y
    generalize hr : snS c w n k ad 5 0 (y.2 3) y = r at hs h01 h2
    have hh := fun Q => c_holds (d := d + 2) (im := rt im r.2.1 r.2.2) (a := y.2 3) (Q := Q) ht hk had
    have hg := fun Q => c_get (d := d + 4) (im := rt im r.2.1 (ups r.2.2 2 (r.2.2 2 + 1))) (dv := y.2 3) (f := 1) (Q := Q) ht
    simp only [eC, eS] at hh hg
    have ih' := ih (r.2.1, ups (ups r.2.2 2 (r.2.2 2 + 1)) 3 (gt c (y.2 3) 1)) (by omega) (by omega) (by dsimp only; rw [ups_ne _ _ (by omega), ups_at]; omega) Q
    rw [pg_28_18]
    simp (disch := omega) only [en_28, wp_return rk_28, pg_28_0, pg_28_61, pg_28_62, pg_28_91, cw_29, cw_30, cw_49, wp_iload, wp_aload, wp_istore, wp_astore, wp_iinc, wp_iconst, wp_dup, wp_dup2, wp_pop, wp_iadd, wp_isub, wp_imul, wp_idiv, wp_irem, wp_ineg, wp_iand, wp_ior, wp_ixor, wp_ishl, wp_ishr, wp_getI, wp_putI, wp_getR, wp_goto, wp_goto_w, wq_if_eq, wq_if_ne, wq_if_lt, wq_if_ge, wq_if_gt, wq_if_le, wq_icmp_eq, wq_icmp_ne, wq_icmp_lt, wq_icmp_ge, wq_icmp_gt, wq_icmp_le, wp_max, wp_min, kI_inl, kR_some, kN_inl, kO_some, KT_none, KT_some, List.length_cons, List.length_nil, Nat.reduceAdd, Nat.reduceLT, Nat.reduceLeDiff, Nat.reduceMod, Nat.reduceDiv, true_and, and_true, Int.reduceLE, Int.reduceNeg, Int.reduceLT, Int.cast_ofNat_Int, Nat.zero_le, zI, Int.reduceAdd, Int.reduceSub, Int.reduceMul, not_true_eq_false, not_false_eq_true, false_implies, true_implies, i01_0, i01_1, ite_not, ↓reduceIte, zget_0, zget_1, zget_2, zget_3, zget_4, zget_5, zget_6, zget_7, zget_8, zget_9, zget_10, zset_0, zset_1, zset_2, zset_3, zset_4, zset_5, zset_6, zset_7, zset_8, zset_9, zset_10, kd_164, k0, show ¬ 4 < lv by omega, if_false, rt_e, hs, hh, hg, h2.2.2, zu_setc, rt_setc, ups_ne, clS, hr]
    clear hs hh hg
    rcases h01 with e0 | e1
    · by_cases c1 : y.2 3 = -1
      · simp only [e0, c1, if_true, true_or, or_true]
      · by_cases c2 : hdB c sp (y.2 3) k ad
        · rw [if_pos e0, if_neg c1, if_pos c2, if_pos (Or.inr (Or.inr c2))]
        · rw [if_pos e0, if_neg c1, if_neg c2, if_neg (by omega)]
          repeat (refine (and_iff_right (by omega)).trans ?_)
          exact ih'
    · rw [if_neg (by omega), if_pos (Or.inl e1)]
theorem c_climb (ht : zT t) (hn : im t 4 ≤ 20) (hb : TB (im (t + 1))) (hk : 0 ≤ k ∧ k < 2) (had : -2147483648 ≤ ad ∧ ad ≤ 2147483647) (hok : SnOK (im (t + 1)) (im (t + 3)) (im t 4) k) {r : zSS × (Int → Int)} (hr : r = clS (im (t + 1)) (im (t + 3)) (im (t + 2)) (im t 4) k ad 5 (gsh im 165, dse (im 164) a)) : CallP (d + 5) 28 [.inr (some 164), .inr (some t), .inl a, .inl k, .inl ad] im Q ↔ Q none (rt im r.1 r.2) := by
  have hs := l_climb (d := d) (im := im) (x2 := .inl a) ht rfl rfl rfl rfl hn hb hk had hok 5 0 (gsh im 165, dse (im 164) a) (by omega) (by omega) (by simp only [dse]; rw [ups_ne _ _ (by omega), ups_at]; omega) Q
  have es : setc im 164 (dse (im 164) a) = rt im (gsh im 165) (dse (im 164) a) := by
    have := rt_setc (im := im) (z := gsh im 165) (e := im 164) (e' := dse (im 164) a)
    rw [rt_self] at this
    exact this
  simp only [← hr] at hs
  simp (disch := omega) only [en_28, wp_return rk_28, pg_28_0, pg_28_61, pg_28_62, pg_28_91, cw_29, cw_30, cw_49, wp_iload, wp_aload, wp_istore, wp_astore, wp_iinc, wp_iconst, wp_dup, wp_dup2, wp_pop, wp_iadd, wp_isub, wp_imul, wp_idiv, wp_irem, wp_ineg, wp_iand, wp_ior, wp_ixor, wp_ishl, wp_ishr, wp_getI, wp_putI, wp_getR, wp_goto, wp_goto_w, wq_if_eq, wq_if_ne, wq_if_lt, wq_if_ge, wq_if_gt, wq_if_le, wq_icmp_eq, wq_icmp_ne, wq_icmp_lt, wq_icmp_ge, wq_icmp_gt, wq_icmp_le, wp_max, wp_min, kI_inl, kR_some, kN_inl, kO_some, KT_none, KT_some, List.length_cons, List.length_nil, Nat.reduceAdd, Nat.reduceLT, Nat.reduceLeDiff, Nat.reduceMod, Nat.reduceDiv, true_and, and_true, Int.reduceLE, Int.reduceNeg, Int.reduceLT, Int.cast_ofNat_Int, Nat.zero_le, zI, Int.reduceAdd, Int.reduceSub, Int.reduceMul, not_true_eq_false, not_false_eq_true, false_implies, true_implies, i01_0, i01_1, ite_not, ↓reduceIte, zget_0, zget_1, zget_2, zget_3, zget_4, zget_5, zget_6, zget_7, zget_8, zget_9, zget_10, zset_0, zset_1, zset_2, zset_3, zset_4, zset_5, zset_6, zset_7, zset_8, zset_9, zset_10, kd_164, zu_setc, setc_at, setc_setc]
  rw [show ups (ups (ups (im 164) 1 (-1)) 2 0) 3 a = dse (im 164) a from rfl, es]
  exact hs
end RC
