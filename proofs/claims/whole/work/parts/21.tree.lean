/-! THE CLASS'S TREE: its small methods -/
theorem i01_0 {p : Prop} [Decidable p] : ((if p then (1 : Int) else 0) = 0) = ¬ p := by
  by_cases h : p <;> simp [h]
theorem i01_1 {p : Prop} [Decidable p] : ((if p then (1 : Int) else 0) = 1) = p := by
  by_cases h : p <;> simp [h]
section TR
variable {d t : Nat} {im : zM} {Q : Option zV → zM → Prop} {dv f v : Int}
def gt (c : Int → Int) (d f : Int) : Int := if 0 ≤ d ∧ d < 20 ∧ 0 ≤ f ∧ f < 24 then c (d * 24 + f) else -1
theorem c_get (ht : zT t) : CallP d 49 [.inr (some t), .inl dv, .inl f] im Q ↔ Q (some (.inl (gt (im (t + 1)) dv f))) im := by
  refine CallP_eq ?_
  have k0 := (zT_k ht).1
  have k1 := (zT_k ht).2.1
  have k2 := (zT_k ht).2.2.1
  have k3 := (zT_k ht).2.2.2.1
  have k4 := (zT_k ht).2.2.2.2
  have r0 := (zT_r0 _ ht).1
  have r1 := (zT_r0 _ ht).2.1
  have r2 := (zT_r0 _ ht).2.2.1
  have r3 := (zT_r0 _ ht).2.2.2
  simp only [en_49, wp_ireturn rk_49, pg_49_0, pg_49_20, pg_49_22, wp_iload, wp_aload, wp_istore, wp_astore, wp_iinc, wp_iconst, wp_dup, wp_dup2, wp_pop, wp_iadd, wp_isub, wp_imul, wp_idiv, wp_irem, wp_ineg, wp_iand, wp_ior, wp_ixor, wp_ishl, wp_ishr, wp_getI, wp_putI, wp_getR, wp_goto, wp_goto_w, wq_if_eq, wq_if_ne, wq_if_lt, wq_if_ge, wq_if_gt, wq_if_le, wq_icmp_eq, wq_icmp_ne, wq_icmp_lt, wq_icmp_ge, wq_icmp_gt, wq_icmp_le, wp_max, wp_min, kI_inl, kR_some, kN_inl, kO_some, KT_none, KT_some, List.length_cons, List.length_nil, Nat.reduceAdd, Nat.reduceLT, Nat.reduceLeDiff, Nat.reduceMod, Nat.reduceDiv, true_and, and_true, Int.reduceLE, Int.reduceNeg, Int.reduceLT, Int.cast_ofNat_Int, Nat.zero_le, zI, Int.reduceAdd, Int.reduceSub, Int.reduceMul, not_true_eq_false, not_false_eq_true, false_implies, true_implies, i01_0, i01_1, ite_not, ↓reduceIte, zget_0, zget_1, zget_2, zget_3, zget_4, zget_5, zget_6, zget_7, zget_8, zget_9, zget_10, zset_0, zset_1, zset_2, zset_3, zset_4, zset_5, zset_6, zset_7, zset_8, zset_9, zset_10, k0, r0, r1, r2, r3, wp_iaload k1, wp_iaload k2, wp_iaload k3, wp_iaload k4, wp_iastore k1, wp_iastore k2, wp_iastore k3, wp_iastore k4]
  simp only [gt]
  grind
theorem c_set (ht : zT t) : CallP d 50 [.inr (some t), .inl dv, .inl f, .inl v] im Q ↔ Q none (if 0 ≤ dv ∧ dv < 20 ∧ 0 ≤ f ∧ f < 24 then zu im (t + 1) (dv * 24 + f) v else im) := by
  refine CallP_eq ?_
  have k0 := (zT_k ht).1
  have k1 := (zT_k ht).2.1
  have k2 := (zT_k ht).2.2.1
  have k3 := (zT_k ht).2.2.2.1
  have k4 := (zT_k ht).2.2.2.2
  have r0 := (zT_r0 _ ht).1
  have r1 := (zT_r0 _ ht).2.1
  have r2 := (zT_r0 _ ht).2.2.1
  have r3 := (zT_r0 _ ht).2.2.2
  simp only [en_50, wp_return rk_50, pg_50_0, pg_50_32, wp_iload, wp_aload, wp_istore, wp_astore, wp_iinc, wp_iconst, wp_dup, wp_dup2, wp_pop, wp_iadd, wp_isub, wp_imul, wp_idiv, wp_irem, wp_ineg, wp_iand, wp_ior, wp_ixor, wp_ishl, wp_ishr, wp_getI, wp_putI, wp_getR, wp_goto, wp_goto_w, wq_if_eq, wq_if_ne, wq_if_lt, wq_if_ge, wq_if_gt, wq_if_le, wq_icmp_eq, wq_icmp_ne, wq_icmp_lt, wq_icmp_ge, wq_icmp_gt, wq_icmp_le, wp_max, wp_min, kI_inl, kR_some, kN_inl, kO_some, KT_none, KT_some, List.length_cons, List.length_nil, Nat.reduceAdd, Nat.reduceLT, Nat.reduceLeDiff, Nat.reduceMod, Nat.reduceDiv, true_and, and_true, Int.reduceLE, Int.reduceNeg, Int.reduceLT, Int.cast_ofNat_Int, Nat.zero_le, zI, Int.reduceAdd, Int.reduceSub, Int.reduceMul, not_true_eq_false, not_false_eq_true, false_implies, true_implies, i01_0, i01_1, ite_not, ↓reduceIte, zget_0, zget_1, zget_2, zget_3, zget_4, zget_5, zget_6, zget_7, zget_8, zget_9, zget_10, zset_0, zset_1, zset_2, zset_3, zset_4, zset_5, zset_6, zset_7, zset_8, zset_9, zset_10, k0, r0, r1, r2, r3, wp_iaload k1, wp_iaload k2, wp_iaload k3, wp_iaload k4, wp_iastore k1, wp_iastore k2, wp_iastore k3, wp_iastore k4]
  grind
theorem c_isThere (ht : zT t) : CallP (d + 1) 51 [.inr (some t), .inl dv] im Q ↔ Q (some (.inl (if 0 < gt (im (t + 1)) dv 0 then 1 else 0))) im := by
  refine CallP_eq ?_
  have k0 := (zT_k ht).1
  have k1 := (zT_k ht).2.1
  have k2 := (zT_k ht).2.2.1
  have k3 := (zT_k ht).2.2.2.1
  have k4 := (zT_k ht).2.2.2.2
  have r0 := (zT_r0 _ ht).1
  have r1 := (zT_r0 _ ht).2.1
  have r2 := (zT_r0 _ ht).2.2.1
  have r3 := (zT_r0 _ ht).2.2.2
  simp only [en_51, wp_zreturn rk_51, pg_51_0, pg_51_13, pg_51_14, cw_49, wp_iload, wp_aload, wp_istore, wp_astore, wp_iinc, wp_iconst, wp_dup, wp_dup2, wp_pop, wp_iadd, wp_isub, wp_imul, wp_idiv, wp_irem, wp_ineg, wp_iand, wp_ior, wp_ixor, wp_ishl, wp_ishr, wp_getI, wp_putI, wp_getR, wp_goto, wp_goto_w, wq_if_eq, wq_if_ne, wq_if_lt, wq_if_ge, wq_if_gt, wq_if_le, wq_icmp_eq, wq_icmp_ne, wq_icmp_lt, wq_icmp_ge, wq_icmp_gt, wq_icmp_le, wp_max, wp_min, kI_inl, kR_some, kN_inl, kO_some, KT_none, KT_some, List.length_cons, List.length_nil, Nat.reduceAdd, Nat.reduceLT, Nat.reduceLeDiff, Nat.reduceMod, Nat.reduceDiv, true_and, and_true, Int.reduceLE, Int.reduceNeg, Int.reduceLT, Int.cast_ofNat_Int, Nat.zero_le, zI, Int.reduceAdd, Int.reduceSub, Int.reduceMul, not_true_eq_false, not_false_eq_true, false_implies, true_implies, i01_0, i01_1, ite_not, ↓reduceIte, zget_0, zget_1, zget_2, zget_3, zget_4, zget_5, zget_6, zget_7, zget_8, zget_9, zget_10, zset_0, zset_1, zset_2, zset_3, zset_4, zset_5, zset_6, zset_7, zset_8, zset_9, zset_10, k0, r0, r1, r2, r3, wp_iaload k1, wp_iaload k2, wp_iaload k3, wp_iaload k4, wp_iastore k1, wp_iastore k2, wp_iastore k3, wp_iastore k4, c_get ht]
  grind
theorem c_isEndpoint (ht : zT t) : CallP (d + 1) 52 [.inr (some t), .inl dv] im Q ↔ Q (some (.inl (if gt (im (t + 1)) dv 0 = 1 then 1 else 0))) im := by
  refine CallP_eq ?_
  have k0 := (zT_k ht).1
  have k1 := (zT_k ht).2.1
  have k2 := (zT_k ht).2.2.1
  have k3 := (zT_k ht).2.2.2.1
  have k4 := (zT_k ht).2.2.2.2
  have r0 := (zT_r0 _ ht).1
  have r1 := (zT_r0 _ ht).2.1
  have r2 := (zT_r0 _ ht).2.2.1
  have r3 := (zT_r0 _ ht).2.2.2
  simp only [en_52, wp_zreturn rk_52, pg_52_0, pg_52_14, pg_52_15, cw_49, wp_iload, wp_aload, wp_istore, wp_astore, wp_iinc, wp_iconst, wp_dup, wp_dup2, wp_pop, wp_iadd, wp_isub, wp_imul, wp_idiv, wp_irem, wp_ineg, wp_iand, wp_ior, wp_ixor, wp_ishl, wp_ishr, wp_getI, wp_putI, wp_getR, wp_goto, wp_goto_w, wq_if_eq, wq_if_ne, wq_if_lt, wq_if_ge, wq_if_gt, wq_if_le, wq_icmp_eq, wq_icmp_ne, wq_icmp_lt, wq_icmp_ge, wq_icmp_gt, wq_icmp_le, wp_max, wp_min, kI_inl, kR_some, kN_inl, kO_some, KT_none, KT_some, List.length_cons, List.length_nil, Nat.reduceAdd, Nat.reduceLT, Nat.reduceLeDiff, Nat.reduceMod, Nat.reduceDiv, true_and, and_true, Int.reduceLE, Int.reduceNeg, Int.reduceLT, Int.cast_ofNat_Int, Nat.zero_le, zI, Int.reduceAdd, Int.reduceSub, Int.reduceMul, not_true_eq_false, not_false_eq_true, false_implies, true_implies, i01_0, i01_1, ite_not, ↓reduceIte, zget_0, zget_1, zget_2, zget_3, zget_4, zget_5, zget_6, zget_7, zget_8, zget_9, zget_10, zset_0, zset_1, zset_2, zset_3, zset_4, zset_5, zset_6, zset_7, zset_8, zset_9, zset_10, k0, r0, r1, r2, r3, wp_iaload k1, wp_iaload k2, wp_iaload k3, wp_iaload k4, wp_iastore k1, wp_iastore k2, wp_iastore k3, wp_iastore k4, c_get ht]
  grind
theorem c_isBridge (ht : zT t) : CallP (d + 1) 53 [.inr (some t), .inl dv] im Q ↔ Q (some (.inl (if gt (im (t + 1)) dv 0 = 2 then 1 else 0))) im := by
  refine CallP_eq ?_
  have k0 := (zT_k ht).1
  have k1 := (zT_k ht).2.1
  have k2 := (zT_k ht).2.2.1
  have k3 := (zT_k ht).2.2.2.1
  have k4 := (zT_k ht).2.2.2.2
  have r0 := (zT_r0 _ ht).1
  have r1 := (zT_r0 _ ht).2.1
  have r2 := (zT_r0 _ ht).2.2.1
  have r3 := (zT_r0 _ ht).2.2.2
  simp only [en_53, wp_zreturn rk_53, pg_53_0, pg_53_14, pg_53_15, cw_49, wp_iload, wp_aload, wp_istore, wp_astore, wp_iinc, wp_iconst, wp_dup, wp_dup2, wp_pop, wp_iadd, wp_isub, wp_imul, wp_idiv, wp_irem, wp_ineg, wp_iand, wp_ior, wp_ixor, wp_ishl, wp_ishr, wp_getI, wp_putI, wp_getR, wp_goto, wp_goto_w, wq_if_eq, wq_if_ne, wq_if_lt, wq_if_ge, wq_if_gt, wq_if_le, wq_icmp_eq, wq_icmp_ne, wq_icmp_lt, wq_icmp_ge, wq_icmp_gt, wq_icmp_le, wp_max, wp_min, kI_inl, kR_some, kN_inl, kO_some, KT_none, KT_some, List.length_cons, List.length_nil, Nat.reduceAdd, Nat.reduceLT, Nat.reduceLeDiff, Nat.reduceMod, Nat.reduceDiv, true_and, and_true, Int.reduceLE, Int.reduceNeg, Int.reduceLT, Int.cast_ofNat_Int, Nat.zero_le, zI, Int.reduceAdd, Int.reduceSub, Int.reduceMul, not_true_eq_false, not_false_eq_true, false_implies, true_implies, i01_0, i01_1, ite_not, ↓reduceIte, zget_0, zget_1, zget_2, zget_3, zget_4, zget_5, zget_6, zget_7, zget_8, zget_9, zget_10, zset_0, zset_1, zset_2, zset_3, zset_4, zset_5, zset_6, zset_7, zset_8, zset_9, zset_10, k0, r0, r1, r2, r3, wp_iaload k1, wp_iaload k2, wp_iaload k3, wp_iaload k4, wp_iastore k1, wp_iastore k2, wp_iastore k3, wp_iastore k4, c_get ht]
  grind
theorem c_isOn (ht : zT t) : CallP (d + 1) 54 [.inr (some t), .inl dv] im Q ↔ Q (some (.inl (if gt (im (t + 1)) dv 3 = 1 then 1 else 0))) im := by
  refine CallP_eq ?_
  have k0 := (zT_k ht).1
  have k1 := (zT_k ht).2.1
  have k2 := (zT_k ht).2.2.1
  have k3 := (zT_k ht).2.2.2.1
  have k4 := (zT_k ht).2.2.2.2
  have r0 := (zT_r0 _ ht).1
  have r1 := (zT_r0 _ ht).2.1
  have r2 := (zT_r0 _ ht).2.2.1
  have r3 := (zT_r0 _ ht).2.2.2
  simp only [en_54, wp_zreturn rk_54, pg_54_0, pg_54_14, pg_54_15, cw_49, wp_iload, wp_aload, wp_istore, wp_astore, wp_iinc, wp_iconst, wp_dup, wp_dup2, wp_pop, wp_iadd, wp_isub, wp_imul, wp_idiv, wp_irem, wp_ineg, wp_iand, wp_ior, wp_ixor, wp_ishl, wp_ishr, wp_getI, wp_putI, wp_getR, wp_goto, wp_goto_w, wq_if_eq, wq_if_ne, wq_if_lt, wq_if_ge, wq_if_gt, wq_if_le, wq_icmp_eq, wq_icmp_ne, wq_icmp_lt, wq_icmp_ge, wq_icmp_gt, wq_icmp_le, wp_max, wp_min, kI_inl, kR_some, kN_inl, kO_some, KT_none, KT_some, List.length_cons, List.length_nil, Nat.reduceAdd, Nat.reduceLT, Nat.reduceLeDiff, Nat.reduceMod, Nat.reduceDiv, true_and, and_true, Int.reduceLE, Int.reduceNeg, Int.reduceLT, Int.cast_ofNat_Int, Nat.zero_le, zI, Int.reduceAdd, Int.reduceSub, Int.reduceMul, not_true_eq_false, not_false_eq_true, false_implies, true_implies, i01_0, i01_1, ite_not, ↓reduceIte, zget_0, zget_1, zget_2, zget_3, zget_4, zget_5, zget_6, zget_7, zget_8, zget_9, zget_10, zset_0, zset_1, zset_2, zset_3, zset_4, zset_5, zset_6, zset_7, zset_8, zset_9, zset_10, k0, r0, r1, r2, r3, wp_iaload k1, wp_iaload k2, wp_iaload k3, wp_iaload k4, wp_iastore k1, wp_iastore k2, wp_iastore k3, wp_iastore k4, c_get ht]
  grind
def hasBusB (c : Int → Int) (a : Int) : Prop := a = -1 ∨ gt c a 0 = 2
def busOnB (c : Int → Int) (a : Int) : Prop := a = -1 ∨ (gt c a 0 = 2 ∧ gt c a 3 = 1)
def spc (s : Int → Int) (k : Int) : Int := if 0 ≤ k ∧ k < 2 then s k else 0
def wka (w : Int → Int) (n i : Int) : Int := if 0 ≤ i ∧ i < n ∧ i < 20 then w i else -1
def begf (c : Int → Int) (a k : Int) : Int := if a = -1 ∨ gt c a (20 + k) = 0 then 0 else gt c a (18 + k)
def lenf (c s : Int → Int) (a k : Int) : Int := if a = -1 then spc s k else gt c a (20 + k)
def fstf (c : Int → Int) (a : Int) : Int := if a = -1 then 0 else gt c a 7
def lstf (c : Int → Int) (a : Int) : Int := if a = -1 then 31 else gt c a 8
theorem c_hasBus (ht : zT t) : CallP (d + 2) 55 [.inr (some t), .inl dv] im Q ↔ Q (some (.inl (if dv = -1 ∨ gt (im (t + 1)) dv 0 = 2 then 1 else 0))) im := by
  refine CallP_eq ?_
  have k0 := (zT_k ht).1
  have k1 := (zT_k ht).2.1
  have k2 := (zT_k ht).2.2.1
  have k3 := (zT_k ht).2.2.2.1
  have k4 := (zT_k ht).2.2.2.2
  have r0 := (zT_r0 _ ht).1
  have r1 := (zT_r0 _ ht).2.1
  have r2 := (zT_r0 _ ht).2.2.1
  have r3 := (zT_r0 _ ht).2.2.2
  simp only [en_55, wp_zreturn rk_55, pg_55_0, pg_55_13, pg_55_17, pg_55_18, cw_53, wp_iload, wp_aload, wp_istore, wp_astore, wp_iinc, wp_iconst, wp_dup, wp_dup2, wp_pop, wp_iadd, wp_isub, wp_imul, wp_idiv, wp_irem, wp_ineg, wp_iand, wp_ior, wp_ixor, wp_ishl, wp_ishr, wp_getI, wp_putI, wp_getR, wp_goto, wp_goto_w, wq_if_eq, wq_if_ne, wq_if_lt, wq_if_ge, wq_if_gt, wq_if_le, wq_icmp_eq, wq_icmp_ne, wq_icmp_lt, wq_icmp_ge, wq_icmp_gt, wq_icmp_le, wp_max, wp_min, kI_inl, kR_some, kN_inl, kO_some, KT_none, KT_some, List.length_cons, List.length_nil, Nat.reduceAdd, Nat.reduceLT, Nat.reduceLeDiff, Nat.reduceMod, Nat.reduceDiv, true_and, and_true, Int.reduceLE, Int.reduceNeg, Int.reduceLT, Int.cast_ofNat_Int, Nat.zero_le, zI, Int.reduceAdd, Int.reduceSub, Int.reduceMul, not_true_eq_false, not_false_eq_true, false_implies, true_implies, i01_0, i01_1, ite_not, ↓reduceIte, zget_0, zget_1, zget_2, zget_3, zget_4, zget_5, zget_6, zget_7, zget_8, zget_9, zget_10, zset_0, zset_1, zset_2, zset_3, zset_4, zset_5, zset_6, zset_7, zset_8, zset_9, zset_10, k0, r0, r1, r2, r3, wp_iaload k1, wp_iaload k2, wp_iaload k3, wp_iaload k4, wp_iastore k1, wp_iastore k2, wp_iastore k3, wp_iastore k4, c_isBridge ht]
  grind
theorem c_isBusOn (ht : zT t) : CallP (d + 2) 56 [.inr (some t), .inl dv] im Q ↔ Q (some (.inl (if dv = -1 ∨ (gt (im (t + 1)) dv 0 = 2 ∧ gt (im (t + 1)) dv 3 = 1) then 1 else 0))) im := by
  refine CallP_eq ?_
  have k0 := (zT_k ht).1
  have k1 := (zT_k ht).2.1
  have k2 := (zT_k ht).2.2.1
  have k3 := (zT_k ht).2.2.2.1
  have k4 := (zT_k ht).2.2.2.2
  have r0 := (zT_r0 _ ht).1
  have r1 := (zT_r0 _ ht).2.1
  have r2 := (zT_r0 _ ht).2.2.1
  have r3 := (zT_r0 _ ht).2.2.2
  simp only [en_56, wp_zreturn rk_56, pg_56_0, pg_56_21, pg_56_25, pg_56_26, cw_53, cw_54, wp_iload, wp_aload, wp_istore, wp_astore, wp_iinc, wp_iconst, wp_dup, wp_dup2, wp_pop, wp_iadd, wp_isub, wp_imul, wp_idiv, wp_irem, wp_ineg, wp_iand, wp_ior, wp_ixor, wp_ishl, wp_ishr, wp_getI, wp_putI, wp_getR, wp_goto, wp_goto_w, wq_if_eq, wq_if_ne, wq_if_lt, wq_if_ge, wq_if_gt, wq_if_le, wq_icmp_eq, wq_icmp_ne, wq_icmp_lt, wq_icmp_ge, wq_icmp_gt, wq_icmp_le, wp_max, wp_min, kI_inl, kR_some, kN_inl, kO_some, KT_none, KT_some, List.length_cons, List.length_nil, Nat.reduceAdd, Nat.reduceLT, Nat.reduceLeDiff, Nat.reduceMod, Nat.reduceDiv, true_and, and_true, Int.reduceLE, Int.reduceNeg, Int.reduceLT, Int.cast_ofNat_Int, Nat.zero_le, zI, Int.reduceAdd, Int.reduceSub, Int.reduceMul, not_true_eq_false, not_false_eq_true, false_implies, true_implies, i01_0, i01_1, ite_not, ↓reduceIte, zget_0, zget_1, zget_2, zget_3, zget_4, zget_5, zget_6, zget_7, zget_8, zget_9, zget_10, zset_0, zset_1, zset_2, zset_3, zset_4, zset_5, zset_6, zset_7, zset_8, zset_9, zset_10, k0, r0, r1, r2, r3, wp_iaload k1, wp_iaload k2, wp_iaload k3, wp_iaload k4, wp_iastore k1, wp_iastore k2, wp_iastore k3, wp_iastore k4, c_isBridge ht, c_isOn ht]
  grind
theorem c_spaceOf (ht : zT t) : CallP d 57 [.inr (some t), .inl dv] im Q ↔ Q (some (.inl (spc (im (t + 2)) dv))) im := by
  refine CallP_eq ?_
  have k0 := (zT_k ht).1
  have k1 := (zT_k ht).2.1
  have k2 := (zT_k ht).2.2.1
  have k3 := (zT_k ht).2.2.2.1
  have k4 := (zT_k ht).2.2.2.2
  have r0 := (zT_r0 _ ht).1
  have r1 := (zT_r0 _ ht).2.1
  have r2 := (zT_r0 _ ht).2.2.1
  have r3 := (zT_r0 _ ht).2.2.2
  simp only [en_57, wp_ireturn rk_57, pg_57_0, pg_57_18, pg_57_19, wp_iload, wp_aload, wp_istore, wp_astore, wp_iinc, wp_iconst, wp_dup, wp_dup2, wp_pop, wp_iadd, wp_isub, wp_imul, wp_idiv, wp_irem, wp_ineg, wp_iand, wp_ior, wp_ixor, wp_ishl, wp_ishr, wp_getI, wp_putI, wp_getR, wp_goto, wp_goto_w, wq_if_eq, wq_if_ne, wq_if_lt, wq_if_ge, wq_if_gt, wq_if_le, wq_icmp_eq, wq_icmp_ne, wq_icmp_lt, wq_icmp_ge, wq_icmp_gt, wq_icmp_le, wp_max, wp_min, kI_inl, kR_some, kN_inl, kO_some, KT_none, KT_some, List.length_cons, List.length_nil, Nat.reduceAdd, Nat.reduceLT, Nat.reduceLeDiff, Nat.reduceMod, Nat.reduceDiv, true_and, and_true, Int.reduceLE, Int.reduceNeg, Int.reduceLT, Int.cast_ofNat_Int, Nat.zero_le, zI, Int.reduceAdd, Int.reduceSub, Int.reduceMul, not_true_eq_false, not_false_eq_true, false_implies, true_implies, i01_0, i01_1, ite_not, ↓reduceIte, zget_0, zget_1, zget_2, zget_3, zget_4, zget_5, zget_6, zget_7, zget_8, zget_9, zget_10, zset_0, zset_1, zset_2, zset_3, zset_4, zset_5, zset_6, zset_7, zset_8, zset_9, zset_10, k0, r0, r1, r2, r3, wp_iaload k1, wp_iaload k2, wp_iaload k3, wp_iaload k4, wp_iastore k1, wp_iastore k2, wp_iastore k3, wp_iastore k4]
  grind [spc]
theorem c_walkAt (ht : zT t) : CallP d 58 [.inr (some t), .inl dv] im Q ↔ Q (some (.inl (wka (im (t + 3)) (im t 4) dv))) im := by
  refine CallP_eq ?_
  have k0 := (zT_k ht).1
  have k1 := (zT_k ht).2.1
  have k2 := (zT_k ht).2.2.1
  have k3 := (zT_k ht).2.2.2.1
  have k4 := (zT_k ht).2.2.2.2
  have r0 := (zT_r0 _ ht).1
  have r1 := (zT_r0 _ ht).2.1
  have r2 := (zT_r0 _ ht).2.2.1
  have r3 := (zT_r0 _ ht).2.2.2
  simp only [en_58, wp_ireturn rk_58, pg_58_0, pg_58_27, pg_58_28, wp_iload, wp_aload, wp_istore, wp_astore, wp_iinc, wp_iconst, wp_dup, wp_dup2, wp_pop, wp_iadd, wp_isub, wp_imul, wp_idiv, wp_irem, wp_ineg, wp_iand, wp_ior, wp_ixor, wp_ishl, wp_ishr, wp_getI, wp_putI, wp_getR, wp_goto, wp_goto_w, wq_if_eq, wq_if_ne, wq_if_lt, wq_if_ge, wq_if_gt, wq_if_le, wq_icmp_eq, wq_icmp_ne, wq_icmp_lt, wq_icmp_ge, wq_icmp_gt, wq_icmp_le, wp_max, wp_min, kI_inl, kR_some, kN_inl, kO_some, KT_none, KT_some, List.length_cons, List.length_nil, Nat.reduceAdd, Nat.reduceLT, Nat.reduceLeDiff, Nat.reduceMod, Nat.reduceDiv, true_and, and_true, Int.reduceLE, Int.reduceNeg, Int.reduceLT, Int.cast_ofNat_Int, Nat.zero_le, zI, Int.reduceAdd, Int.reduceSub, Int.reduceMul, not_true_eq_false, not_false_eq_true, false_implies, true_implies, i01_0, i01_1, ite_not, ↓reduceIte, zget_0, zget_1, zget_2, zget_3, zget_4, zget_5, zget_6, zget_7, zget_8, zget_9, zget_10, zset_0, zset_1, zset_2, zset_3, zset_4, zset_5, zset_6, zset_7, zset_8, zset_9, zset_10, k0, r0, r1, r2, r3, wp_iaload k1, wp_iaload k2, wp_iaload k3, wp_iaload k4, wp_iastore k1, wp_iastore k2, wp_iastore k3, wp_iastore k4]
  grind [wka]
theorem c_begin (ht : zT t) (hk : 0 ≤ f ∧ f < 2) : CallP (d + 1) 59 [.inr (some t), .inl dv, .inl f] im Q ↔ Q (some (.inl (begf (im (t + 1)) dv f))) im := by
  refine CallP_eq ?_
  have k0 := (zT_k ht).1
  have k1 := (zT_k ht).2.1
  have k2 := (zT_k ht).2.2.1
  have k3 := (zT_k ht).2.2.2.1
  have k4 := (zT_k ht).2.2.2.2
  have r0 := (zT_r0 _ ht).1
  have r1 := (zT_r0 _ ht).2.1
  have r2 := (zT_r0 _ ht).2.2.1
  have r3 := (zT_r0 _ ht).2.2.2
  simp only [en_59, wp_ireturn rk_59, pg_59_0, pg_59_17, pg_59_21, pg_59_30, cw_49, wp_iload, wp_aload, wp_istore, wp_astore, wp_iinc, wp_iconst, wp_dup, wp_dup2, wp_pop, wp_iadd, wp_isub, wp_imul, wp_idiv, wp_irem, wp_ineg, wp_iand, wp_ior, wp_ixor, wp_ishl, wp_ishr, wp_getI, wp_putI, wp_getR, wp_goto, wp_goto_w, wq_if_eq, wq_if_ne, wq_if_lt, wq_if_ge, wq_if_gt, wq_if_le, wq_icmp_eq, wq_icmp_ne, wq_icmp_lt, wq_icmp_ge, wq_icmp_gt, wq_icmp_le, wp_max, wp_min, kI_inl, kR_some, kN_inl, kO_some, KT_none, KT_some, List.length_cons, List.length_nil, Nat.reduceAdd, Nat.reduceLT, Nat.reduceLeDiff, Nat.reduceMod, Nat.reduceDiv, true_and, and_true, Int.reduceLE, Int.reduceNeg, Int.reduceLT, Int.cast_ofNat_Int, Nat.zero_le, zI, Int.reduceAdd, Int.reduceSub, Int.reduceMul, not_true_eq_false, not_false_eq_true, false_implies, true_implies, i01_0, i01_1, ite_not, ↓reduceIte, zget_0, zget_1, zget_2, zget_3, zget_4, zget_5, zget_6, zget_7, zget_8, zget_9, zget_10, zset_0, zset_1, zset_2, zset_3, zset_4, zset_5, zset_6, zset_7, zset_8, zset_9, zset_10, k0, r0, r1, r2, r3, wp_iaload k1, wp_iaload k2, wp_iaload k3, wp_iaload k4, wp_iastore k1, wp_iastore k2, wp_iastore k3, wp_iastore k4, c_get ht]
  grind [begf]
theorem c_length (ht : zT t) (hk : 0 ≤ f ∧ f < 2) : CallP (d + 1) 60 [.inr (some t), .inl dv, .inl f] im Q ↔ Q (some (.inl (lenf (im (t + 1)) (im (t + 2)) dv f))) im := by
  refine CallP_eq ?_
  have k0 := (zT_k ht).1
  have k1 := (zT_k ht).2.1
  have k2 := (zT_k ht).2.2.1
  have k3 := (zT_k ht).2.2.2.1
  have k4 := (zT_k ht).2.2.2.2
  have r0 := (zT_r0 _ ht).1
  have r1 := (zT_r0 _ ht).2.1
  have r2 := (zT_r0 _ ht).2.2.1
  have r3 := (zT_r0 _ ht).2.2.2
  simp only [en_60, wp_ireturn rk_60, pg_60_0, pg_60_13, pg_60_22, cw_49, cw_57, wp_iload, wp_aload, wp_istore, wp_astore, wp_iinc, wp_iconst, wp_dup, wp_dup2, wp_pop, wp_iadd, wp_isub, wp_imul, wp_idiv, wp_irem, wp_ineg, wp_iand, wp_ior, wp_ixor, wp_ishl, wp_ishr, wp_getI, wp_putI, wp_getR, wp_goto, wp_goto_w, wq_if_eq, wq_if_ne, wq_if_lt, wq_if_ge, wq_if_gt, wq_if_le, wq_icmp_eq, wq_icmp_ne, wq_icmp_lt, wq_icmp_ge, wq_icmp_gt, wq_icmp_le, wp_max, wp_min, kI_inl, kR_some, kN_inl, kO_some, KT_none, KT_some, List.length_cons, List.length_nil, Nat.reduceAdd, Nat.reduceLT, Nat.reduceLeDiff, Nat.reduceMod, Nat.reduceDiv, true_and, and_true, Int.reduceLE, Int.reduceNeg, Int.reduceLT, Int.cast_ofNat_Int, Nat.zero_le, zI, Int.reduceAdd, Int.reduceSub, Int.reduceMul, not_true_eq_false, not_false_eq_true, false_implies, true_implies, i01_0, i01_1, ite_not, ↓reduceIte, zget_0, zget_1, zget_2, zget_3, zget_4, zget_5, zget_6, zget_7, zget_8, zget_9, zget_10, zset_0, zset_1, zset_2, zset_3, zset_4, zset_5, zset_6, zset_7, zset_8, zset_9, zset_10, k0, r0, r1, r2, r3, wp_iaload k1, wp_iaload k2, wp_iaload k3, wp_iaload k4, wp_iastore k1, wp_iastore k2, wp_iastore k3, wp_iastore k4, c_get ht, c_spaceOf ht]
  grind [lenf]
theorem c_firstNumber (ht : zT t) : CallP (d + 1) 61 [.inr (some t), .inl dv] im Q ↔ Q (some (.inl (fstf (im (t + 1)) dv))) im := by
  refine CallP_eq ?_
  have k0 := (zT_k ht).1
  have k1 := (zT_k ht).2.1
  have k2 := (zT_k ht).2.2.1
  have k3 := (zT_k ht).2.2.2.1
  have k4 := (zT_k ht).2.2.2.2
  have r0 := (zT_r0 _ ht).1
  have r1 := (zT_r0 _ ht).2.1
  have r2 := (zT_r0 _ ht).2.2.1
  have r3 := (zT_r0 _ ht).2.2.2
  simp only [en_61, wp_ireturn rk_61, pg_61_0, pg_61_9, pg_61_16, cw_49, wp_iload, wp_aload, wp_istore, wp_astore, wp_iinc, wp_iconst, wp_dup, wp_dup2, wp_pop, wp_iadd, wp_isub, wp_imul, wp_idiv, wp_irem, wp_ineg, wp_iand, wp_ior, wp_ixor, wp_ishl, wp_ishr, wp_getI, wp_putI, wp_getR, wp_goto, wp_goto_w, wq_if_eq, wq_if_ne, wq_if_lt, wq_if_ge, wq_if_gt, wq_if_le, wq_icmp_eq, wq_icmp_ne, wq_icmp_lt, wq_icmp_ge, wq_icmp_gt, wq_icmp_le, wp_max, wp_min, kI_inl, kR_some, kN_inl, kO_some, KT_none, KT_some, List.length_cons, List.length_nil, Nat.reduceAdd, Nat.reduceLT, Nat.reduceLeDiff, Nat.reduceMod, Nat.reduceDiv, true_and, and_true, Int.reduceLE, Int.reduceNeg, Int.reduceLT, Int.cast_ofNat_Int, Nat.zero_le, zI, Int.reduceAdd, Int.reduceSub, Int.reduceMul, not_true_eq_false, not_false_eq_true, false_implies, true_implies, i01_0, i01_1, ite_not, ↓reduceIte, zget_0, zget_1, zget_2, zget_3, zget_4, zget_5, zget_6, zget_7, zget_8, zget_9, zget_10, zset_0, zset_1, zset_2, zset_3, zset_4, zset_5, zset_6, zset_7, zset_8, zset_9, zset_10, k0, r0, r1, r2, r3, wp_iaload k1, wp_iaload k2, wp_iaload k3, wp_iaload k4, wp_iastore k1, wp_iastore k2, wp_iastore k3, wp_iastore k4, c_get ht]
  grind [fstf]
theorem c_lastNumber (ht : zT t) : CallP (d + 1) 62 [.inr (some t), .inl dv] im Q ↔ Q (some (.inl (lstf (im (t + 1)) dv))) im := by
  refine CallP_eq ?_
  have k0 := (zT_k ht).1
  have k1 := (zT_k ht).2.1
  have k2 := (zT_k ht).2.2.1
  have k3 := (zT_k ht).2.2.2.1
  have k4 := (zT_k ht).2.2.2.2
  have r0 := (zT_r0 _ ht).1
  have r1 := (zT_r0 _ ht).2.1
  have r2 := (zT_r0 _ ht).2.2.1
  have r3 := (zT_r0 _ ht).2.2.2
  simp only [en_62, wp_ireturn rk_62, pg_62_0, pg_62_10, pg_62_17, cw_49, wp_iload, wp_aload, wp_istore, wp_astore, wp_iinc, wp_iconst, wp_dup, wp_dup2, wp_pop, wp_iadd, wp_isub, wp_imul, wp_idiv, wp_irem, wp_ineg, wp_iand, wp_ior, wp_ixor, wp_ishl, wp_ishr, wp_getI, wp_putI, wp_getR, wp_goto, wp_goto_w, wq_if_eq, wq_if_ne, wq_if_lt, wq_if_ge, wq_if_gt, wq_if_le, wq_icmp_eq, wq_icmp_ne, wq_icmp_lt, wq_icmp_ge, wq_icmp_gt, wq_icmp_le, wp_max, wp_min, kI_inl, kR_some, kN_inl, kO_some, KT_none, KT_some, List.length_cons, List.length_nil, Nat.reduceAdd, Nat.reduceLT, Nat.reduceLeDiff, Nat.reduceMod, Nat.reduceDiv, true_and, and_true, Int.reduceLE, Int.reduceNeg, Int.reduceLT, Int.cast_ofNat_Int, Nat.zero_le, zI, Int.reduceAdd, Int.reduceSub, Int.reduceMul, not_true_eq_false, not_false_eq_true, false_implies, true_implies, i01_0, i01_1, ite_not, ↓reduceIte, zget_0, zget_1, zget_2, zget_3, zget_4, zget_5, zget_6, zget_7, zget_8, zget_9, zget_10, zset_0, zset_1, zset_2, zset_3, zset_4, zset_5, zset_6, zset_7, zset_8, zset_9, zset_10, k0, r0, r1, r2, r3, wp_iaload k1, wp_iaload k2, wp_iaload k3, wp_iaload k4, wp_iastore k1, wp_iastore k2, wp_iastore k3, wp_iastore k4, c_get ht]
  grind [lstf]
end TR
