/-! THE CLASS'S TREE: its small methods -/
section TR
variable {d t : Nat} {im : zM} {Q : Option zV → zM → Prop} {dv f v : Int}
def gt (c : Int → Int) (d f : Int) : Int := if 0 ≤ d ∧ d < 20 ∧ 0 ≤ f ∧ f < 24 then c (d * 24 + f) else -1
theorem c_get (ht : zT t) : CallP d 49 [.inr (some t), .inl dv, .inl f] im Q ↔ Q (some (.inl (gt (im (t + 1)) dv f))) im := by
  refine CallP_eq ?_
  have k0 := (zT_k ht).1
  have k1 := (zT_k ht).2.1
  have k2 := (zT_k ht).2.2.1
  have k3 := (zT_k ht).2.2.2.1
  have k4 := (zT_k ht).2.2.2.2
  have r0 := (zT_r0 _ ht).1
  have r1 := (zT_r0 _ ht).2.1
  have r2 := (zT_r0 _ ht).2.2.1
  have r3 := (zT_r0 _ ht).2.2.2
  simp only [en_49, wp_ireturn rk_49, pg_49_0, pg_49_20, pg_49_22, wp_iload, wp_aload, wp_istore, wp_astore, wp_iinc, wp_iconst, wp_dup, wp_dup2, wp_pop, wp_iadd, wp_isub, wp_imul, wp_idiv, wp_irem, wp_ineg, wp_iand, wp_ior, wp_ixor, wp_ishl, wp_ishr, wp_getI, wp_putI, wp_getR, wp_goto, wp_goto_w, wp_if_eq, wp_if_ne, wp_if_lt, wp_if_ge, wp_if_gt, wp_if_le, wp_icmp_eq, wp_icmp_ne, wp_icmp_lt, wp_icmp_ge, wp_icmp_gt, wp_icmp_le, wp_max, wp_min, zifI_inl, zifR_some, zifO_some, zpu_none, zpu_some, List.length_cons, List.length_nil, Nat.reduceAdd, Nat.reduceLT, Nat.reduceLeDiff, Nat.reduceMod, Nat.reduceDiv, true_and, and_true, Int.reduceLE, Int.reduceNeg, Int.reduceLT, Int.cast_ofNat_Int, Nat.zero_le, zget_0, zget_1, zget_2, zget_3, zget_4, zget_5, zget_6, zget_7, zget_8, zget_9, zget_10, zset_0, zset_1, zset_2, zset_3, zset_4, zset_5, zset_6, zset_7, zset_8, zset_9, zset_10, k0, r0, r1, r2, r3, wp_iaload k1, wp_iaload k2, wp_iaload k3, wp_iaload k4, wp_iastore k1, wp_iastore k2, wp_iastore k3, wp_iastore k4]
  simp only [zI, gt]
  grind
theorem c_set (ht : zT t) : CallP d 50 [.inr (some t), .inl dv, .inl f, .inl v] im Q ↔ Q none (if 0 ≤ dv ∧ dv < 20 ∧ 0 ≤ f ∧ f < 24 then zu im (t + 1) (dv * 24 + f) v else im) := by
  refine CallP_eq ?_
  have k0 := (zT_k ht).1
  have k1 := (zT_k ht).2.1
  have k2 := (zT_k ht).2.2.1
  have k3 := (zT_k ht).2.2.2.1
  have k4 := (zT_k ht).2.2.2.2
  have r0 := (zT_r0 _ ht).1
  have r1 := (zT_r0 _ ht).2.1
  have r2 := (zT_r0 _ ht).2.2.1
  have r3 := (zT_r0 _ ht).2.2.2
  simp only [en_50, wp_return rk_50, pg_50_0, pg_50_32, wp_iload, wp_aload, wp_istore, wp_astore, wp_iinc, wp_iconst, wp_dup, wp_dup2, wp_pop, wp_iadd, wp_isub, wp_imul, wp_idiv, wp_irem, wp_ineg, wp_iand, wp_ior, wp_ixor, wp_ishl, wp_ishr, wp_getI, wp_putI, wp_getR, wp_goto, wp_goto_w, wp_if_eq, wp_if_ne, wp_if_lt, wp_if_ge, wp_if_gt, wp_if_le, wp_icmp_eq, wp_icmp_ne, wp_icmp_lt, wp_icmp_ge, wp_icmp_gt, wp_icmp_le, wp_max, wp_min, zifI_inl, zifR_some, zifO_some, zpu_none, zpu_some, List.length_cons, List.length_nil, Nat.reduceAdd, Nat.reduceLT, Nat.reduceLeDiff, Nat.reduceMod, Nat.reduceDiv, true_and, and_true, Int.reduceLE, Int.reduceNeg, Int.reduceLT, Int.cast_ofNat_Int, Nat.zero_le, zget_0, zget_1, zget_2, zget_3, zget_4, zget_5, zget_6, zget_7, zget_8, zget_9, zget_10, zset_0, zset_1, zset_2, zset_3, zset_4, zset_5, zset_6, zset_7, zset_8, zset_9, zset_10, k0, r0, r1, r2, r3, wp_iaload k1, wp_iaload k2, wp_iaload k3, wp_iaload k4, wp_iastore k1, wp_iastore k2, wp_iastore k3, wp_iastore k4]
  simp only [zI]
  grind
theorem c_isThere (ht : zT t) : CallP (d + 1) 51 [.inr (some t), .inl dv] im Q ↔ Q (some (.inl (if 0 < gt (im (t + 1)) dv 0 then 1 else 0))) im := by
  refine CallP_eq ?_
  have k0 := (zT_k ht).1
  have k1 := (zT_k ht).2.1
  have k2 := (zT_k ht).2.2.1
  have k3 := (zT_k ht).2.2.2.1
  have k4 := (zT_k ht).2.2.2.2
  have r0 := (zT_r0 _ ht).1
  have r1 := (zT_r0 _ ht).2.1
  have r2 := (zT_r0 _ ht).2.2.1
  have r3 := (zT_r0 _ ht).2.2.2
  simp only [en_51, wp_zreturn rk_51, pg_51_0, pg_51_13, pg_51_14, cw_49, wp_iload, wp_aload, wp_istore, wp_astore, wp_iinc, wp_iconst, wp_dup, wp_dup2, wp_pop, wp_iadd, wp_isub, wp_imul, wp_idiv, wp_irem, wp_ineg, wp_iand, wp_ior, wp_ixor, wp_ishl, wp_ishr, wp_getI, wp_putI, wp_getR, wp_goto, wp_goto_w, wp_if_eq, wp_if_ne, wp_if_lt, wp_if_ge, wp_if_gt, wp_if_le, wp_icmp_eq, wp_icmp_ne, wp_icmp_lt, wp_icmp_ge, wp_icmp_gt, wp_icmp_le, wp_max, wp_min, zifI_inl, zifR_some, zifO_some, zpu_none, zpu_some, List.length_cons, List.length_nil, Nat.reduceAdd, Nat.reduceLT, Nat.reduceLeDiff, Nat.reduceMod, Nat.reduceDiv, true_and, and_true, Int.reduceLE, Int.reduceNeg, Int.reduceLT, Int.cast_ofNat_Int, Nat.zero_le, zget_0, zget_1, zget_2, zget_3, zget_4, zget_5, zget_6, zget_7, zget_8, zget_9, zget_10, zset_0, zset_1, zset_2, zset_3, zset_4, zset_5, zset_6, zset_7, zset_8, zset_9, zset_10, k0, r0, r1, r2, r3, wp_iaload k1, wp_iaload k2, wp_iaload k3, wp_iaload k4, wp_iastore k1, wp_iastore k2, wp_iastore k3, wp_iastore k4, c_get ht]
  simp only [zI]
  grind
theorem c_isEndpoint (ht : zT t) : CallP (d + 1) 52 [.inr (some t), .inl dv] im Q ↔ Q (some (.inl (if gt (im (t + 1)) dv 0 = 1 then 1 else 0))) im := by
  refine CallP_eq ?_
  have k0 := (zT_k ht).1
  have k1 := (zT_k ht).2.1
  have k2 := (zT_k ht).2.2.1
  have k3 := (zT_k ht).2.2.2.1
  have k4 := (zT_k ht).2.2.2.2
  have r0 := (zT_r0 _ ht).1
  have r1 := (zT_r0 _ ht).2.1
  have r2 := (zT_r0 _ ht).2.2.1
  have r3 := (zT_r0 _ ht).2.2.2
  simp only [en_52, wp_zreturn rk_52, pg_52_0, pg_52_14, pg_52_15, cw_49, wp_iload, wp_aload, wp_istore, wp_astore, wp_iinc, wp_iconst, wp_dup, wp_dup2, wp_pop, wp_iadd, wp_isub, wp_imul, wp_idiv, wp_irem, wp_ineg, wp_iand, wp_ior, wp_ixor, wp_ishl, wp_ishr, wp_getI, wp_putI, wp_getR, wp_goto, wp_goto_w, wp_if_eq, wp_if_ne, wp_if_lt, wp_if_ge, wp_if_gt, wp_if_le, wp_icmp_eq, wp_icmp_ne, wp_icmp_lt, wp_icmp_ge, wp_icmp_gt, wp_icmp_le, wp_max, wp_min, zifI_inl, zifR_some, zifO_some, zpu_none, zpu_some, List.length_cons, List.length_nil, Nat.reduceAdd, Nat.reduceLT, Nat.reduceLeDiff, Nat.reduceMod, Nat.reduceDiv, true_and, and_true, Int.reduceLE, Int.reduceNeg, Int.reduceLT, Int.cast_ofNat_Int, Nat.zero_le, zget_0, zget_1, zget_2, zget_3, zget_4, zget_5, zget_6, zget_7, zget_8, zget_9, zget_10, zset_0, zset_1, zset_2, zset_3, zset_4, zset_5, zset_6, zset_7, zset_8, zset_9, zset_10, k0, r0, r1, r2, r3, wp_iaload k1, wp_iaload k2, wp_iaload k3, wp_iaload k4, wp_iastore k1, wp_iastore k2, wp_iastore k3, wp_iastore k4, c_get ht]
  simp only [zI]
  grind
theorem c_isBridge (ht : zT t) : CallP (d + 1) 53 [.inr (some t), .inl dv] im Q ↔ Q (some (.inl (if gt (im (t + 1)) dv 0 = 2 then 1 else 0))) im := by
  refine CallP_eq ?_
  have k0 := (zT_k ht).1
  have k1 := (zT_k ht).2.1
  have k2 := (zT_k ht).2.2.1
  have k3 := (zT_k ht).2.2.2.1
  have k4 := (zT_k ht).2.2.2.2
  have r0 := (zT_r0 _ ht).1
  have r1 := (zT_r0 _ ht).2.1
  have r2 := (zT_r0 _ ht).2.2.1
  have r3 := (zT_r0 _ ht).2.2.2
  simp only [en_53, wp_zreturn rk_53, pg_53_0, pg_53_14, pg_53_15, cw_49, wp_iload, wp_aload, wp_istore, wp_astore, wp_iinc, wp_iconst, wp_dup, wp_dup2, wp_pop, wp_iadd, wp_isub, wp_imul, wp_idiv, wp_irem, wp_ineg, wp_iand, wp_ior, wp_ixor, wp_ishl, wp_ishr, wp_getI, wp_putI, wp_getR, wp_goto, wp_goto_w, wp_if_eq, wp_if_ne, wp_if_lt, wp_if_ge, wp_if_gt, wp_if_le, wp_icmp_eq, wp_icmp_ne, wp_icmp_lt, wp_icmp_ge, wp_icmp_gt, wp_icmp_le, wp_max, wp_min, zifI_inl, zifR_some, zifO_some, zpu_none, zpu_some, List.length_cons, List.length_nil, Nat.reduceAdd, Nat.reduceLT, Nat.reduceLeDiff, Nat.reduceMod, Nat.reduceDiv, true_and, and_true, Int.reduceLE, Int.reduceNeg, Int.reduceLT, Int.cast_ofNat_Int, Nat.zero_le, zget_0, zget_1, zget_2, zget_3, zget_4, zget_5, zget_6, zget_7, zget_8, zget_9, zget_10, zset_0, zset_1, zset_2, zset_3, zset_4, zset_5, zset_6, zset_7, zset_8, zset_9, zset_10, k0, r0, r1, r2, r3, wp_iaload k1, wp_iaload k2, wp_iaload k3, wp_iaload k4, wp_iastore k1, wp_iastore k2, wp_iastore k3, wp_iastore k4, c_get ht]
  simp only [zI]
  grind
theorem c_isOn (ht : zT t) : CallP (d + 1) 54 [.inr (some t), .inl dv] im Q ↔ Q (some (.inl (if gt (im (t + 1)) dv 3 = 1 then 1 else 0))) im := by
  refine CallP_eq ?_
  have k0 := (zT_k ht).1
  have k1 := (zT_k ht).2.1
  have k2 := (zT_k ht).2.2.1
  have k3 := (zT_k ht).2.2.2.1
  have k4 := (zT_k ht).2.2.2.2
  have r0 := (zT_r0 _ ht).1
  have r1 := (zT_r0 _ ht).2.1
  have r2 := (zT_r0 _ ht).2.2.1
  have r3 := (zT_r0 _ ht).2.2.2
  simp only [en_54, wp_zreturn rk_54, pg_54_0, pg_54_14, pg_54_15, cw_49, wp_iload, wp_aload, wp_istore, wp_astore, wp_iinc, wp_iconst, wp_dup, wp_dup2, wp_pop, wp_iadd, wp_isub, wp_imul, wp_idiv, wp_irem, wp_ineg, wp_iand, wp_ior, wp_ixor, wp_ishl, wp_ishr, wp_getI, wp_putI, wp_getR, wp_goto, wp_goto_w, wp_if_eq, wp_if_ne, wp_if_lt, wp_if_ge, wp_if_gt, wp_if_le, wp_icmp_eq, wp_icmp_ne, wp_icmp_lt, wp_icmp_ge, wp_icmp_gt, wp_icmp_le, wp_max, wp_min, zifI_inl, zifR_some, zifO_some, zpu_none, zpu_some, List.length_cons, List.length_nil, Nat.reduceAdd, Nat.reduceLT, Nat.reduceLeDiff, Nat.reduceMod, Nat.reduceDiv, true_and, and_true, Int.reduceLE, Int.reduceNeg, Int.reduceLT, Int.cast_ofNat_Int, Nat.zero_le, zget_0, zget_1, zget_2, zget_3, zget_4, zget_5, zget_6, zget_7, zget_8, zget_9, zget_10, zset_0, zset_1, zset_2, zset_3, zset_4, zset_5, zset_6, zset_7, zset_8, zset_9, zset_10, k0, r0, r1, r2, r3, wp_iaload k1, wp_iaload k2, wp_iaload k3, wp_iaload k4, wp_iastore k1, wp_iastore k2, wp_iastore k3, wp_iastore k4, c_get ht]
  simp only [zI]
  grind
end TR
