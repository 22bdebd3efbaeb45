/-! THE CLASS'S SHELF: gathering -/
section SG
variable {d s t u o : Nat} {im : zM} {Q : Option zV → zM → Prop} {a b v dv kd sl i : Int}
theorem zTS_apart {t s : Nat} (ht : zT t) (hs : zSh s) : t + 5 ≤ s ∨ s + 6 ≤ t := by
  have h0 : zTl.all (fun t => zSl.all (fun u => (decide (t + 5 ≤ u) || decide (u + 6 ≤ t)))) = true := by decide +kernel
  have h1 := List.all_eq_true.mp (List.all_eq_true.mp h0 t ht) s hs
  simpa only [Bool.or_eq_true, decide_eq_true_eq] using h1
theorem zSS_apart {t s : Nat} (ht : zSh t) (hs : zSh s) (h : t ≠ s) : t + 6 ≤ s ∨ s + 6 ≤ t := by
  have h0 : zSl.all (fun t => zSl.all (fun u => decide (t = u) || (decide (t + 6 ≤ u) || decide (u + 6 ≤ t)))) = true := by decide +kernel
  have h1 := List.all_eq_true.mp (List.all_eq_true.mp h0 t ht) s hs
  simp only [Bool.or_eq_true, decide_eq_true_eq] at h1
  exact h1.resolve_left h
def adfS (z y : zSS) (i : Int) : zSS := if 0 ≤ i ∧ i < y.2.2.2.2.2 ∧ i < 27 then addS z (y.1 i) (y.2.1 i) (y.2.2.1 i) (y.2.2.2.1 i) (y.2.2.2.2.1 i) else z
theorem c_addFrom (hs : zSh s) (ho : zSh o) : CallP (d + 1) 36 [.inr (some s), .inr (some o), .inl i] im Q ↔ Q none (sth im s (adfS (gsh im s) (gsh im o) i)) := by
  have k0 := (zSh_k hs).1
  have k1 := (zSh_k hs).2.1
  have k2 := (zSh_k hs).2.2.1
  have k3 := (zSh_k hs).2.2.2.1
  have k4 := (zSh_k hs).2.2.2.2.1
  have k5 := (zSh_k hs).2.2.2.2.2
  have r0 := (zSh_r0 _ hs).1
  have r1 := (zSh_r0 _ hs).2.1
  have r2 := (zSh_r0 _ hs).2.2.1
  have r3 := (zSh_r0 _ hs).2.2.2.1
  have r4 := (zSh_r0 _ hs).2.2.2.2
  have j0 := (zSh_k ho).1
  have j1 := (zSh_k ho).2.1
  have j2 := (zSh_k ho).2.2.1
  have j3 := (zSh_k ho).2.2.2.1
  have j4 := (zSh_k ho).2.2.2.2.1
  have j5 := (zSh_k ho).2.2.2.2.2
  have q0 := (zSh_r0 _ ho).1
  have q1 := (zSh_r0 _ ho).2.1
  have q2 := (zSh_r0 _ ho).2.2.1
  have q3 := (zSh_r0 _ ho).2.2.2.1
  have q4 := (zSh_r0 _ ho).2.2.2.2
  have g : (gsh im o).2.2.2.2.2 = im o 5 := rfl
  simp (disch := omega) only [en_36, wp_return rk_36, pg_36_0, pg_36_52, cw_35, wp_iload, wp_aload, wp_istore, wp_astore, wp_iinc, wp_iconst, wp_dup, wp_dup2, wp_pop, wp_iadd, wp_isub, wp_imul, wp_idiv, wp_irem, wp_ineg, wp_iand, wp_ior, wp_ixor, wp_ishl, wp_ishr, wp_getI, wp_putI, wp_getR, wp_goto, wp_goto_w, wq_if_eq, wq_if_ne, wq_if_lt, wq_if_ge, wq_if_gt, wq_if_le, wq_icmp_eq, wq_icmp_ne, wq_icmp_lt, wq_icmp_ge, wq_icmp_gt, wq_icmp_le, wp_max, wp_min, kI_inl, kR_some, kN_inl, kO_some, KT_none, KT_some, List.length_cons, List.length_nil, Nat.reduceAdd, Nat.reduceLT, Nat.reduceLeDiff, Nat.reduceMod, Nat.reduceDiv, true_and, and_true, Int.reduceLE, Int.reduceNeg, Int.reduceLT, Int.cast_ofNat_Int, Nat.zero_le, zI, Int.reduceAdd, Int.reduceSub, Int.reduceMul, not_true_eq_false, not_false_eq_true, false_implies, true_implies, i01_0, i01_1, ite_not, ↓reduceIte, zget_0, zget_1, zget_2, zget_3, zget_4, zget_5, zget_6, zget_7, zget_8, zget_9, zget_10, zset_0, zset_1, zset_2, zset_3, zset_4, zset_5, zset_6, zset_7, zset_8, zset_9, zset_10, k0, r0, r1, r2, r3, r4, wp_iaload k1, wp_iaload k2, wp_iaload k3, wp_iaload k4, wp_iaload k5, wp_iastore k1, wp_iastore k2, wp_iastore k3, wp_iastore k4, wp_iastore k5, j0, q0, q1, q2, q3, q4, wp_iaload j1, wp_iaload j2, wp_iaload j3, wp_iaload j4, wp_iaload j5, c_add hs, adfS, g]
  by_cases h : 0 ≤ i ∧ i < im o 5 ∧ i < 27
  · simp only [show ¬ i < 0 by omega, show ¬ im o 5 ≤ i by omega, show ¬ 27 ≤ i by omega, if_false, h.1, h.2.1, h.2.2, and_self, true_and, if_true]
    rfl
  · simp only [h, if_false, sth_gsh]
    by_cases h1 : i < 0
    · simp only [h1, if_true]
    · by_cases h2 : im o 5 ≤ i
      · simp only [h1, h2, if_false, if_true]
      · simp only [h1, h2, if_false, show 27 ≤ i by omega, if_true]
def apsf (c : Int → Int) (e k : Int) (a : Int) (z : zSS) : zSS := if gt c e (9 + a) = k then addS z e a (gt c e (12 + a)) (gt c e (12 + a)) (gt c e (15 + a)) else z
def apsS (c : Int → Int) (e k : Int) (z : zSS) : zSS := lp (apsf c e k) (gt c e 6).toNat 0 z
theorem l_addAps (ht : zT t) (hs : zSh s) {c : Int → Int} (hb : gt c dv 6 ≤ 3) : ∀ (n : Nat) (i : Int) (im : zM) (x5 : zV), 0 ≤ i → i + n = ((gt c dv 6).toNat : Nat) → im (t + 1) = c → ∀ Q, wp none (d + 2) 34 (zpg 34 3) [.inr (some s), .inr (some t), .inl dv, .inl kd, .inl i, x5] [] im Q ↔ Q none (sth im s (lp (apsf c dv kd) n i (gsh im s)))
  | 0, i, im, x5, h0, h1, hc, Q => by
    have k0 := (zSh_k hs).1
    have k1 := (zSh_k hs).2.1
    have k2 := (zSh_k hs).2.2.1
    have k3 := (zSh_k hs).2.2.2.1
    have k4 := (zSh_k hs).2.2.2.2.1
    have k5 := (zSh_k hs).2.2.2.2.2
    have r0 := (zSh_r0 _ hs).1
    have r1 := (zSh_r0 _ hs).2.1
    have r2 := (zSh_r0 _ hs).2.2.1
    have r3 := (zSh_r0 _ hs).2.2.2.1
    have r4 := (zSh_r0 _ hs).2.2.2.2
    rw [pg_34_3]
    simp only [en_34, wp_return rk_34, pg_34_0, pg_34_62, pg_34_68, cw_35, cw_49, wp_iload, wp_aload, wp_istore, wp_astore, wp_iinc, wp_iconst, wp_dup, wp_dup2, wp_pop, wp_iadd, wp_isub, wp_imul, wp_idiv, wp_irem, wp_ineg, wp_iand, wp_ior, wp_ixor, wp_ishl, wp_ishr, wp_getI, wp_putI, wp_getR, wp_goto, wp_goto_w, wq_if_eq, wq_if_ne, wq_if_lt, wq_if_ge, wq_if_gt, wq_if_le, wq_icmp_eq, wq_icmp_ne, wq_icmp_lt, wq_icmp_ge, wq_icmp_gt, wq_icmp_le, wp_max, wp_min, kI_inl, kR_some, kN_inl, kO_some, KT_none, KT_some, List.length_cons, List.length_nil, Nat.reduceAdd, Nat.reduceLT, Nat.reduceLeDiff, Nat.reduceMod, Nat.reduceDiv, true_and, and_true, Int.reduceLE, Int.reduceNeg, Int.reduceLT, Int.cast_ofNat_Int, Nat.zero_le, zI, Int.reduceAdd, Int.reduceSub, Int.reduceMul, not_true_eq_false, not_false_eq_true, false_implies, true_implies, i01_0, i01_1, ite_not, ↓reduceIte, zget_0, zget_1, zget_2, zget_3, zget_4, zget_5, zget_6, zget_7, zget_8, zget_9, zget_10, zset_0, zset_1, zset_2, zset_3, zset_4, zset_5, zset_6, zset_7, zset_8, zset_9, zset_10, k0, r0, r1, r2, r3, r4, wp_iaload k1, wp_iaload k2, wp_iaload k3, wp_iaload k4, wp_iaload k5, wp_iastore k1, wp_iastore k2, wp_iastore k3, wp_iastore k4, wp_iastore k5, (zT_k ht).1, c_get ht, hc, lp, sth_gsh, show gt c dv 6 ≤ i by omega]
  | n + 1, i, im, x5, h0, h1, hc, Q => by
    have k0 := (zSh_k hs).1
    have k1 := (zSh_k hs).2.1
    have k2 := (zSh_k hs).2.2.1
    have k3 := (zSh_k hs).2.2.2.1
    have k4 := (zSh_k hs).2.2.2.2.1
    have k5 := (zSh_k hs).2.2.2.2.2
    have r0 := (zSh_r0 _ hs).1
    have r1 := (zSh_r0 _ hs).2.1
    have r2 := (zSh_r0 _ hs).2.2.1
    have r3 := (zSh_r0 _ hs).2.2.2.1
    have r4 := (zSh_r0 _ hs).2.2.2.2
    have ap := zTS_apart ht hs
    have ih := l_addAps ht hs hb n (i + 1)
    rw [pg_34_3]
    simp (disch := first | omega | assumption | (simp (disch := omega) only [sth_ne]; assumption)) only [en_34, wp_return rk_34, pg_34_0, pg_34_62, pg_34_68, cw_35, cw_49, wp_iload, wp_aload, wp_istore, wp_astore, wp_iinc, wp_iconst, wp_dup, wp_dup2, wp_pop, wp_iadd, wp_isub, wp_imul, wp_idiv, wp_irem, wp_ineg, wp_iand, wp_ior, wp_ixor, wp_ishl, wp_ishr, wp_getI, wp_putI, wp_getR, wp_goto, wp_goto_w, wq_if_eq, wq_if_ne, wq_if_lt, wq_if_ge, wq_if_gt, wq_if_le, wq_icmp_eq, wq_icmp_ne, wq_icmp_lt, wq_icmp_ge, wq_icmp_gt, wq_icmp_le, wp_max, wp_min, kI_inl, kR_some, kN_inl, kO_some, KT_none, KT_some, List.length_cons, List.length_nil, Nat.reduceAdd, Nat.reduceLT, Nat.reduceLeDiff, Nat.reduceMod, Nat.reduceDiv, true_and, and_true, Int.reduceLE, Int.reduceNeg, Int.reduceLT, Int.cast_ofNat_Int, Nat.zero_le, zI, Int.reduceAdd, Int.reduceSub, Int.reduceMul, not_true_eq_false, not_false_eq_true, false_implies, true_implies, i01_0, i01_1, ite_not, ↓reduceIte, zget_0, zget_1, zget_2, zget_3, zget_4, zget_5, zget_6, zget_7, zget_8, zget_9, zget_10, zset_0, zset_1, zset_2, zset_3, zset_4, zset_5, zset_6, zset_7, zset_8, zset_9, zset_10, k0, r0, r1, r2, r3, r4, wp_iaload k1, wp_iaload k2, wp_iaload k3, wp_iaload k4, wp_iaload k5, wp_iastore k1, wp_iastore k2, wp_iastore k3, wp_iastore k4, wp_iastore k5, (zT_k ht).1, c_get ht, hc, lp, c_add hs, ih, gsh_sth, sth_sth, show ¬ gt c dv 6 ≤ i by omega, apsf]
    clear ih
    clear k0 k1 k2 k3 k4 k5 r0 r1 r2 r3 r4
    grind (splits := 20)
theorem c_addAps (ht : zT t) (hs : zSh s) (hb : gt (im (t + 1)) dv 6 ≤ 3) : CallP (d + 2) 34 [.inr (some s), .inr (some t), .inl dv, .inl kd] im Q ↔ Q none (sth im s (apsS (im (t + 1)) dv kd (gsh im s))) := by
  have k0 := (zSh_k hs).1
  have k1 := (zSh_k hs).2.1
  have k2 := (zSh_k hs).2.2.1
  have k3 := (zSh_k hs).2.2.2.1
  have k4 := (zSh_k hs).2.2.2.2.1
  have k5 := (zSh_k hs).2.2.2.2.2
  have r0 := (zSh_r0 _ hs).1
  have r1 := (zSh_r0 _ hs).2.1
  have r2 := (zSh_r0 _ hs).2.2.1
  have r3 := (zSh_r0 _ hs).2.2.2.1
  have r4 := (zSh_r0 _ hs).2.2.2.2
  have hl := l_addAps (d := d) (kd := kd) ht hs hb (gt (im (t + 1)) dv 6).toNat 0
  simp (disch := first | omega | rfl) only [en_34, wp_return rk_34, pg_34_0, pg_34_62, pg_34_68, cw_35, cw_49, wp_iload, wp_aload, wp_istore, wp_astore, wp_iinc, wp_iconst, wp_dup, wp_dup2, wp_pop, wp_iadd, wp_isub, wp_imul, wp_idiv, wp_irem, wp_ineg, wp_iand, wp_ior, wp_ixor, wp_ishl, wp_ishr, wp_getI, wp_putI, wp_getR, wp_goto, wp_goto_w, wq_if_eq, wq_if_ne, wq_if_lt, wq_if_ge, wq_if_gt, wq_if_le, wq_icmp_eq, wq_icmp_ne, wq_icmp_lt, wq_icmp_ge, wq_icmp_gt, wq_icmp_le, wp_max, wp_min, kI_inl, kR_some, kN_inl, kO_some, KT_none, KT_some, List.length_cons, List.length_nil, Nat.reduceAdd, Nat.reduceLT, Nat.reduceLeDiff, Nat.reduceMod, Nat.reduceDiv, true_and, and_true, Int.reduceLE, Int.reduceNeg, Int.reduceLT, Int.cast_ofNat_Int, Nat.zero_le, zI, Int.reduceAdd, Int.reduceSub, Int.reduceMul, not_true_eq_false, not_false_eq_true, false_implies, true_implies, i01_0, i01_1, ite_not, ↓reduceIte, zget_0, zget_1, zget_2, zget_3, zget_4, zget_5, zget_6, zget_7, zget_8, zget_9, zget_10, zset_0, zset_1, zset_2, zset_3, zset_4, zset_5, zset_6, zset_7, zset_8, zset_9, zset_10, k0, r0, r1, r2, r3, r4, wp_iaload k1, wp_iaload k2, wp_iaload k3, wp_iaload k4, wp_iaload k5, wp_iastore k1, wp_iastore k2, wp_iastore k3, wp_iastore k4, wp_iastore k5, hl, apsS]
def gaf (c w : Int → Int) (n at' k : Int) (i : Int) (z : zSS) : zSS :=
  if gt c (wka w n i) 1 = at' ∧ gt c (wka w n i) 3 = 1 then (if gt c (wka w n i) 0 = 1 then apsS c (wka w n i) k z else if 0 < gt c (wka w n i) (20 + k) then addS z (wka w n i) (-1) (gt c (wka w n i) (22 + k)) (gt c (wka w n i) (20 + k)) (gt c (wka w n i) (18 + k)) else z) else z
def gatS (c w : Int → Int) (n at' k : Int) (z : zSS) : zSS := lp (gaf c w n at' k) n.toNat 0 (clrS z)
theorem l_gather (ht : zT t) (hs : zSh s) {c w : Int → Int} {n0 : Int} (hb : TB c) (hk : 0 ≤ kd ∧ kd < 2) (hn0 : n0 ≤ 20) : ∀ (n : Nat) (i : Int) (im : zM) (x5 : zV), 0 ≤ i → i + n = (n0.toNat : Nat) → im (t + 1) = c → im (t + 3) = w → im t 4 = n0 → ∀ Q, wp none (d + 3) 33 (zpg 33 7) [.inr (some s), .inr (some t), .inl a, .inl kd, .inl i, x5] [] im Q ↔ Q none (sth im s (lp (gaf c w n0 a kd) n i (gsh im s)))
  | 0, i, im, x5, h0, h1, hc, hw, hn, Q => by
    have k0 := (zSh_k hs).1
    have k1 := (zSh_k hs).2.1
    have k2 := (zSh_k hs).2.2.1
    have k3 := (zSh_k hs).2.2.2.1
    have k4 := (zSh_k hs).2.2.2.2.1
    have k5 := (zSh_k hs).2.2.2.2.2
    have r0 := (zSh_r0 _ hs).1
    have r1 := (zSh_r0 _ hs).2.1
    have r2 := (zSh_r0 _ hs).2.2.1
    have r3 := (zSh_r0 _ hs).2.2.2.1
    have r4 := (zSh_r0 _ hs).2.2.2.2
    rw [pg_33_7]
    simp only [en_33, wp_return rk_33, pg_33_0, pg_33_49, pg_33_71, pg_33_121, pg_33_127, cw_32, cw_34, cw_35, cw_49, cw_58, wp_iload, wp_aload, wp_istore, wp_astore, wp_iinc, wp_iconst, wp_dup, wp_dup2, wp_pop, wp_iadd, wp_isub, wp_imul, wp_idiv, wp_irem, wp_ineg, wp_iand, wp_ior, wp_ixor, wp_ishl, wp_ishr, wp_getI, wp_putI, wp_getR, wp_goto, wp_goto_w, wq_if_eq, wq_if_ne, wq_if_lt, wq_if_ge, wq_if_gt, wq_if_le, wq_icmp_eq, wq_icmp_ne, wq_icmp_lt, wq_icmp_ge, wq_icmp_gt, wq_icmp_le, wp_max, wp_min, kI_inl, kR_some, kN_inl, kO_some, KT_none, KT_some, List.length_cons, List.length_nil, Nat.reduceAdd, Nat.reduceLT, Nat.reduceLeDiff, Nat.reduceMod, Nat.reduceDiv, true_and, and_true, Int.reduceLE, Int.reduceNeg, Int.reduceLT, Int.cast_ofNat_Int, Nat.zero_le, zI, Int.reduceAdd, Int.reduceSub, Int.reduceMul, not_true_eq_false, not_false_eq_true, false_implies, true_implies, i01_0, i01_1, ite_not, ↓reduceIte, zget_0, zget_1, zget_2, zget_3, zget_4, zget_5, zget_6, zget_7, zget_8, zget_9, zget_10, zset_0, zset_1, zset_2, zset_3, zset_4, zset_5, zset_6, zset_7, zset_8, zset_9, zset_10, k0, r0, r1, r2, r3, r4, wp_iaload k1, wp_iaload k2, wp_iaload k3, wp_iaload k4, wp_iaload k5, wp_iastore k1, wp_iastore k2, wp_iastore k3, wp_iastore k4, wp_iastore k5, (zT_k ht).1, hn, lp, sth_gsh, show n0 ≤ i by omega]
  | n + 1, i, im, x5, h0, h1, hc, hw, hn, Q => by
    have k0 := (zSh_k hs).1
    have k1 := (zSh_k hs).2.1
    have k2 := (zSh_k hs).2.2.1
    have k3 := (zSh_k hs).2.2.2.1
    have k4 := (zSh_k hs).2.2.2.2.1
    have k5 := (zSh_k hs).2.2.2.2.2
    have r0 := (zSh_r0 _ hs).1
    have r1 := (zSh_r0 _ hs).2.1
    have r2 := (zSh_r0 _ hs).2.2.1
    have r3 := (zSh_r0 _ hs).2.2.2.1
    have r4 := (zSh_r0 _ hs).2.2.2.2
    have ap := zTS_apart ht hs
    have hb1 : ∀ e, gt c e 6 ≤ 3 := fun e => (hb e).1
    have ha := fun (im : zM) (dv : Int) (Q : Option zV → zM → Prop) (h : im (t + 1) = c) => c_addAps (d := d) (im := im) (dv := dv) (kd := kd) (Q := Q) ht hs (by rw [h]; exact hb1 dv)
    have ih := l_gather ht hs (w := w) hb hk hn0 n (i + 1)
    rw [pg_33_7]
    simp (disch := first | omega | assumption | (simp (disch := omega) only [sth_ne]; assumption)) only [en_33, wp_return rk_33, pg_33_0, pg_33_49, pg_33_71, pg_33_121, pg_33_127, cw_32, cw_34, cw_35, cw_49, cw_58, wp_iload, wp_aload, wp_istore, wp_astore, wp_iinc, wp_iconst, wp_dup, wp_dup2, wp_pop, wp_iadd, wp_isub, wp_imul, wp_idiv, wp_irem, wp_ineg, wp_iand, wp_ior, wp_ixor, wp_ishl, wp_ishr, wp_getI, wp_putI, wp_getR, wp_goto, wp_goto_w, wq_if_eq, wq_if_ne, wq_if_lt, wq_if_ge, wq_if_gt, wq_if_le, wq_icmp_eq, wq_icmp_ne, wq_icmp_lt, wq_icmp_ge, wq_icmp_gt, wq_icmp_le, wp_max, wp_min, kI_inl, kR_some, kN_inl, kO_some, KT_none, KT_some, List.length_cons, List.length_nil, Nat.reduceAdd, Nat.reduceLT, Nat.reduceLeDiff, Nat.reduceMod, Nat.reduceDiv, true_and, and_true, Int.reduceLE, Int.reduceNeg, Int.reduceLT, Int.cast_ofNat_Int, Nat.zero_le, zI, Int.reduceAdd, Int.reduceSub, Int.reduceMul, not_true_eq_false, not_false_eq_true, false_implies, true_implies, i01_0, i01_1, ite_not, ↓reduceIte, zget_0, zget_1, zget_2, zget_3, zget_4, zget_5, zget_6, zget_7, zget_8, zget_9, zget_10, zset_0, zset_1, zset_2, zset_3, zset_4, zset_5, zset_6, zset_7, zset_8, zset_9, zset_10, k0, r0, r1, r2, r3, r4, wp_iaload k1, wp_iaload k2, wp_iaload k3, wp_iaload k4, wp_iaload k5, wp_iastore k1, wp_iastore k2, wp_iastore k3, wp_iastore k4, wp_iastore k5, (zT_k ht).1, c_walkAt ht, c_get ht, hc, hw, hn, lp, c_add hs, ha, ih, gsh_sth, sth_sth, show ¬ n0 ≤ i by omega, gaf]
    clear ih ha
    clear k0 k1 k2 k3 k4 k5 r0 r1 r2 r3 r4
    grind (splits := 30)
theorem c_gather (ht : zT t) (hs : zSh s) (hb : TB (im (t + 1))) (hk : 0 ≤ kd ∧ kd < 2) (hn : im t 4 ≤ 20) : CallP (d + 3) 33 [.inr (some s), .inr (some t), .inl a, .inl kd] im Q ↔ Q none (sth im s (gatS (im (t + 1)) (im (t + 3)) (im t 4) a kd (gsh im s))) := by
  have k0 := (zSh_k hs).1
  have k1 := (zSh_k hs).2.1
  have k2 := (zSh_k hs).2.2.1
  have k3 := (zSh_k hs).2.2.2.1
  have k4 := (zSh_k hs).2.2.2.2.1
  have k5 := (zSh_k hs).2.2.2.2.2
  have r0 := (zSh_r0 _ hs).1
  have r1 := (zSh_r0 _ hs).2.1
  have r2 := (zSh_r0 _ hs).2.2.1
  have r3 := (zSh_r0 _ hs).2.2.2.1
  have r4 := (zSh_r0 _ hs).2.2.2.2
  have ap := zTS_apart ht hs
  have hl := l_gather (d := d) (a := a) (kd := kd) ht hs (w := im (t + 3)) hb hk hn (im t 4).toNat 0
  simp (disch := first | omega | assumption | rfl | (simp (disch := omega) only [sth_ne])) only [en_33, wp_return rk_33, pg_33_0, pg_33_49, pg_33_71, pg_33_121, pg_33_127, cw_32, cw_34, cw_35, cw_49, cw_58, wp_iload, wp_aload, wp_istore, wp_astore, wp_iinc, wp_iconst, wp_dup, wp_dup2, wp_pop, wp_iadd, wp_isub, wp_imul, wp_idiv, wp_irem, wp_ineg, wp_iand, wp_ior, wp_ixor, wp_ishl, wp_ishr, wp_getI, wp_putI, wp_getR, wp_goto, wp_goto_w, wq_if_eq, wq_if_ne, wq_if_lt, wq_if_ge, wq_if_gt, wq_if_le, wq_icmp_eq, wq_icmp_ne, wq_icmp_lt, wq_icmp_ge, wq_icmp_gt, wq_icmp_le, wp_max, wp_min, kI_inl, kR_some, kN_inl, kO_some, KT_none, KT_some, List.length_cons, List.length_nil, Nat.reduceAdd, Nat.reduceLT, Nat.reduceLeDiff, Nat.reduceMod, Nat.reduceDiv, true_and, and_true, Int.reduceLE, Int.reduceNeg, Int.reduceLT, Int.cast_ofNat_Int, Nat.zero_le, zI, Int.reduceAdd, Int.reduceSub, Int.reduceMul, not_true_eq_false, not_false_eq_true, false_implies, true_implies, i01_0, i01_1, ite_not, ↓reduceIte, zget_0, zget_1, zget_2, zget_3, zget_4, zget_5, zget_6, zget_7, zget_8, zget_9, zget_10, zset_0, zset_1, zset_2, zset_3, zset_4, zset_5, zset_6, zset_7, zset_8, zset_9, zset_10, k0, r0, r1, r2, r3, r4, wp_iaload k1, wp_iaload k2, wp_iaload k3, wp_iaload k4, wp_iaload k5, wp_iastore k1, wp_iastore k2, wp_iastore k3, wp_iastore k4, wp_iastore k5, c_clear hs, hl, gatS, gsh_sth, sth_sth, sth_ne]
end SG
