/-! THE CLASS'S TREE: its shape: depth, behind, height, room for one more -/
section TV
variable {d t : Nat} {im : zM} {Q : Option zV → zM → Prop} {a b v dv kd sl : Int}
/-- how many bridges up, at most n -/
def dpf (c : Int → Int) : Nat → Int → Int
  | 0, _ => 0
  | n + 1, a => if a = -1 then 0 else 1 + dpf c n (gt c a 1)
theorem dpf_rg (c : Int → Int) : ∀ (n : Nat) (a : Int), 0 ≤ dpf c n a ∧ dpf c n a ≤ n
  | 0, _ => by simp [dpf]
  | n + 1, a => by
    have := dpf_rg c n (gt c a 1)
    unfold dpf
    split <;> omega
theorem l_depth (ht : zT t) {x0 : zV} : ∀ (n : Nat) (a s : Int), s + n = 5 → 0 ≤ s → ∀ Q, wp none (d + 1) 66 (zpg 66 4) [.inr (some t), x0, .inl s, .inl a] [] im Q ↔ Q (some (.inl (s + dpf (im (t + 1)) n a))) im
  | 0, a, s, h0, h1, Q => by
    have k0 := (zT_k ht).1
    have k1 := (zT_k ht).2.1
    have k2 := (zT_k ht).2.2.1
    have k3 := (zT_k ht).2.2.2.1
    have k4 := (zT_k ht).2.2.2.2
    have r0 := (zT_r0 _ ht).1
    have r1 := (zT_r0 _ ht).2.1
    have r2 := (zT_r0 _ ht).2.2.1
    have r3 := (zT_r0 _ ht).2.2.2
    rw [pg_66_4]
    simp only [en_66, wp_ireturn rk_66, pg_66_0, pg_66_27, cw_49, wp_iload, wp_aload, wp_istore, wp_astore, wp_iinc, wp_iconst, wp_dup, wp_dup2, wp_pop, wp_iadd, wp_isub, wp_imul, wp_idiv, wp_irem, wp_ineg, wp_iand, wp_ior, wp_ixor, wp_ishl, wp_ishr, wp_getI, wp_putI, wp_getR, wp_goto, wp_goto_w, wq_if_eq, wq_if_ne, wq_if_lt, wq_if_ge, wq_if_gt, wq_if_le, wq_icmp_eq, wq_icmp_ne, wq_icmp_lt, wq_icmp_ge, wq_icmp_gt, wq_icmp_le, wp_max, wp_min, kI_inl, kR_some, kN_inl, kO_some, KT_none, KT_some, List.length_cons, List.length_nil, Nat.reduceAdd, Nat.reduceLT, Nat.reduceLeDiff, Nat.reduceMod, Nat.reduceDiv, true_and, and_true, Int.reduceLE, Int.reduceNeg, Int.reduceLT, Int.cast_ofNat_Int, Nat.zero_le, zI, Int.reduceAdd, Int.reduceSub, Int.reduceMul, not_true_eq_false, not_false_eq_true, false_implies, true_implies, i01_0, i01_1, ite_not, ↓reduceIte, zget_0, zget_1, zget_2, zget_3, zget_4, zget_5, zget_6, zget_7, zget_8, zget_9, zget_10, zset_0, zset_1, zset_2, zset_3, zset_4, zset_5, zset_6, zset_7, zset_8, zset_9, zset_10, k0, r0, r1, r2, r3, wp_iaload k1, wp_iaload k2, wp_iaload k3, wp_iaload k4, wp_iastore k1, wp_iastore k2, wp_iastore k3, wp_iastore k4, c_get ht, show ¬ s ≤ 4 by omega]
    grind [dpf]
  | n + 1, a, s, h0, h1, Q => by
    have k0 := (zT_k ht).1
    have k1 := (zT_k ht).2.1
    have k2 := (zT_k ht).2.2.1
    have k3 := (zT_k ht).2.2.2.1
    have k4 := (zT_k ht).2.2.2.2
    have r0 := (zT_r0 _ ht).1
    have r1 := (zT_r0 _ ht).2.1
    have r2 := (zT_r0 _ ht).2.2.1
    have r3 := (zT_r0 _ ht).2.2.2
    have ih := l_depth ht (x0 := x0) n
    rw [pg_66_4]
    simp (disch := omega) only [en_66, wp_ireturn rk_66, pg_66_0, pg_66_27, cw_49, wp_iload, wp_aload, wp_istore, wp_astore, wp_iinc, wp_iconst, wp_dup, wp_dup2, wp_pop, wp_iadd, wp_isub, wp_imul, wp_idiv, wp_irem, wp_ineg, wp_iand, wp_ior, wp_ixor, wp_ishl, wp_ishr, wp_getI, wp_putI, wp_getR, wp_goto, wp_goto_w, wq_if_eq, wq_if_ne, wq_if_lt, wq_if_ge, wq_if_gt, wq_if_le, wq_icmp_eq, wq_icmp_ne, wq_icmp_lt, wq_icmp_ge, wq_icmp_gt, wq_icmp_le, wp_max, wp_min, kI_inl, kR_some, kN_inl, kO_some, KT_none, KT_some, List.length_cons, List.length_nil, Nat.reduceAdd, Nat.reduceLT, Nat.reduceLeDiff, Nat.reduceMod, Nat.reduceDiv, true_and, and_true, Int.reduceLE, Int.reduceNeg, Int.reduceLT, Int.cast_ofNat_Int, Nat.zero_le, zI, Int.reduceAdd, Int.reduceSub, Int.reduceMul, not_true_eq_false, not_false_eq_true, false_implies, true_implies, i01_0, i01_1, ite_not, ↓reduceIte, zget_0, zget_1, zget_2, zget_3, zget_4, zget_5, zget_6, zget_7, zget_8, zget_9, zget_10, zset_0, zset_1, zset_2, zset_3, zset_4, zset_5, zset_6, zset_7, zset_8, zset_9, zset_10, k0, r0, r1, r2, r3, wp_iaload k1, wp_iaload k2, wp_iaload k3, wp_iaload k4, wp_iastore k1, wp_iastore k2, wp_iastore k3, wp_iastore k4, c_get ht, ih]
    clear ih
    clear k0 k1 k2 k3 k4 r0 r1 r2 r3
    grind (splits := 20) [dpf]
theorem c_depth (ht : zT t) : CallP (d + 1) 66 [.inr (some t), .inl a] im Q ↔ Q (some (.inl (dpf (im (t + 1)) 5 a))) im := by
  have k0 := (zT_k ht).1
  have k1 := (zT_k ht).2.1
  have k2 := (zT_k ht).2.2.1
  have k3 := (zT_k ht).2.2.2.1
  have k4 := (zT_k ht).2.2.2.2
  have r0 := (zT_r0 _ ht).1
  have r1 := (zT_r0 _ ht).2.1
  have r2 := (zT_r0 _ ht).2.2.1
  have r3 := (zT_r0 _ ht).2.2.2
  simp (disch := omega) only [en_66, wp_ireturn rk_66, pg_66_0, pg_66_27, cw_49, wp_iload, wp_aload, wp_istore, wp_astore, wp_iinc, wp_iconst, wp_dup, wp_dup2, wp_pop, wp_iadd, wp_isub, wp_imul, wp_idiv, wp_irem, wp_ineg, wp_iand, wp_ior, wp_ixor, wp_ishl, wp_ishr, wp_getI, wp_putI, wp_getR, wp_goto, wp_goto_w, wq_if_eq, wq_if_ne, wq_if_lt, wq_if_ge, wq_if_gt, wq_if_le, wq_icmp_eq, wq_icmp_ne, wq_icmp_lt, wq_icmp_ge, wq_icmp_gt, wq_icmp_le, wp_max, wp_min, kI_inl, kR_some, kN_inl, kO_some, KT_none, KT_some, List.length_cons, List.length_nil, Nat.reduceAdd, Nat.reduceLT, Nat.reduceLeDiff, Nat.reduceMod, Nat.reduceDiv, true_and, and_true, Int.reduceLE, Int.reduceNeg, Int.reduceLT, Int.cast_ofNat_Int, Nat.zero_le, zI, Int.reduceAdd, Int.reduceSub, Int.reduceMul, not_true_eq_false, not_false_eq_true, false_implies, true_implies, i01_0, i01_1, ite_not, ↓reduceIte, zget_0, zget_1, zget_2, zget_3, zget_4, zget_5, zget_6, zget_7, zget_8, zget_9, zget_10, zset_0, zset_1, zset_2, zset_3, zset_4, zset_5, zset_6, zset_7, zset_8, zset_9, zset_10, k0, r0, r1, r2, r3, wp_iaload k1, wp_iaload k2, wp_iaload k3, wp_iaload k4, wp_iastore k1, wp_iastore k2, wp_iastore k3, wp_iastore k4, l_depth ht 5, Int.zero_add]
/-- whether b is among the bridges up from a, at most n -/
def bhf (c : Int → Int) (b : Int) : Nat → Int → Bool
  | 0, _ => false
  | n + 1, a => if a = -1 then false else if a = b then true else bhf c b n (gt c a 1)
theorem l_isBehind (ht : zT t) {x0 : zV} : ∀ (n : Nat) (a s : Int), s + n = 4 → 0 ≤ s → ∀ Q, wp none (d + 1) 67 (zpg 67 10) [.inr (some t), x0, .inl b, .inl a, .inl s] [] im Q ↔ Q (some (.inl (if bhf (im (t + 1)) b n a = true then 1 else 0))) im
  | 0, a, s, h0, h1, Q => by
    have k0 := (zT_k ht).1
    have k1 := (zT_k ht).2.1
    have k2 := (zT_k ht).2.2.1
    have k3 := (zT_k ht).2.2.2.1
    have k4 := (zT_k ht).2.2.2.2
    have r0 := (zT_r0 _ ht).1
    have r1 := (zT_r0 _ ht).2.1
    have r2 := (zT_r0 _ ht).2.2.1
    have r3 := (zT_r0 _ ht).2.2.2
    rw [pg_67_10]
    simp only [en_67, wp_zreturn rk_67, pg_67_0, pg_67_28, pg_67_41, cw_49, wp_iload, wp_aload, wp_istore, wp_astore, wp_iinc, wp_iconst, wp_dup, wp_dup2, wp_pop, wp_iadd, wp_isub, wp_imul, wp_idiv, wp_irem, wp_ineg, wp_iand, wp_ior, wp_ixor, wp_ishl, wp_ishr, wp_getI, wp_putI, wp_getR, wp_goto, wp_goto_w, wq_if_eq, wq_if_ne, wq_if_lt, wq_if_ge, wq_if_gt, wq_if_le, wq_icmp_eq, wq_icmp_ne, wq_icmp_lt, wq_icmp_ge, wq_icmp_gt, wq_icmp_le, wp_max, wp_min, kI_inl, kR_some, kN_inl, kO_some, KT_none, KT_some, List.length_cons, List.length_nil, Nat.reduceAdd, Nat.reduceLT, Nat.reduceLeDiff, Nat.reduceMod, Nat.reduceDiv, true_and, and_true, Int.reduceLE, Int.reduceNeg, Int.reduceLT, Int.cast_ofNat_Int, Nat.zero_le, zI, Int.reduceAdd, Int.reduceSub, Int.reduceMul, not_true_eq_false, not_false_eq_true, false_implies, true_implies, i01_0, i01_1, ite_not, ↓reduceIte, zget_0, zget_1, zget_2, zget_3, zget_4, zget_5, zget_6, zget_7, zget_8, zget_9, zget_10, zset_0, zset_1, zset_2, zset_3, zset_4, zset_5, zset_6, zset_7, zset_8, zset_9, zset_10, k0, r0, r1, r2, r3, wp_iaload k1, wp_iaload k2, wp_iaload k3, wp_iaload k4, wp_iastore k1, wp_iastore k2, wp_iastore k3, wp_iastore k4, c_get ht, show ¬ s < 4 by omega]
    grind [bhf]
  | n + 1, a, s, h0, h1, Q => by
    have k0 := (zT_k ht).1
    have k1 := (zT_k ht).2.1
    have k2 := (zT_k ht).2.2.1
    have k3 := (zT_k ht).2.2.2.1
    have k4 := (zT_k ht).2.2.2.2
    have r0 := (zT_r0 _ ht).1
    have r1 := (zT_r0 _ ht).2.1
    have r2 := (zT_r0 _ ht).2.2.1
    have r3 := (zT_r0 _ ht).2.2.2
    have ih := l_isBehind ht (x0 := x0) n
    rw [pg_67_10]
    simp (disch := omega) only [en_67, wp_zreturn rk_67, pg_67_0, pg_67_28, pg_67_41, cw_49, wp_iload, wp_aload, wp_istore, wp_astore, wp_iinc, wp_iconst, wp_dup, wp_dup2, wp_pop, wp_iadd, wp_isub, wp_imul, wp_idiv, wp_irem, wp_ineg, wp_iand, wp_ior, wp_ixor, wp_ishl, wp_ishr, wp_getI, wp_putI, wp_getR, wp_goto, wp_goto_w, wq_if_eq, wq_if_ne, wq_if_lt, wq_if_ge, wq_if_gt, wq_if_le, wq_icmp_eq, wq_icmp_ne, wq_icmp_lt, wq_icmp_ge, wq_icmp_gt, wq_icmp_le, wp_max, wp_min, kI_inl, kR_some, kN_inl, kO_some, KT_none, KT_some, List.length_cons, List.length_nil, Nat.reduceAdd, Nat.reduceLT, Nat.reduceLeDiff, Nat.reduceMod, Nat.reduceDiv, true_and, and_true, Int.reduceLE, Int.reduceNeg, Int.reduceLT, Int.cast_ofNat_Int, Nat.zero_le, zI, Int.reduceAdd, Int.reduceSub, Int.reduceMul, not_true_eq_false, not_false_eq_true, false_implies, true_implies, i01_0, i01_1, ite_not, ↓reduceIte, zget_0, zget_1, zget_2, zget_3, zget_4, zget_5, zget_6, zget_7, zget_8, zget_9, zget_10, zset_0, zset_1, zset_2, zset_3, zset_4, zset_5, zset_6, zset_7, zset_8, zset_9, zset_10, k0, r0, r1, r2, r3, wp_iaload k1, wp_iaload k2, wp_iaload k3, wp_iaload k4, wp_iastore k1, wp_iastore k2, wp_iastore k3, wp_iastore k4, c_get ht, ih]
    clear ih
    clear k0 k1 k2 k3 k4 r0 r1 r2 r3
    grind (splits := 20) [bhf]
/-- whether a device is behind a bridge -/
abbrev bhB (c : Int → Int) (e b : Int) : Bool := bhf c b 4 (gt c e 1)
theorem c_isBehind (ht : zT t) : CallP (d + 1) 67 [.inr (some t), .inl a, .inl b] im Q ↔ Q (some (.inl (if bhB (im (t + 1)) a b = true then 1 else 0))) im := by
  have k0 := (zT_k ht).1
  have k1 := (zT_k ht).2.1
  have k2 := (zT_k ht).2.2.1
  have k3 := (zT_k ht).2.2.2.1
  have k4 := (zT_k ht).2.2.2.2
  have r0 := (zT_r0 _ ht).1
  have r1 := (zT_r0 _ ht).2.1
  have r2 := (zT_r0 _ ht).2.2.1
  have r3 := (zT_r0 _ ht).2.2.2
  simp (disch := omega) only [en_67, wp_zreturn rk_67, pg_67_0, pg_67_28, pg_67_41, cw_49, wp_iload, wp_aload, wp_istore, wp_astore, wp_iinc, wp_iconst, wp_dup, wp_dup2, wp_pop, wp_iadd, wp_isub, wp_imul, wp_idiv, wp_irem, wp_ineg, wp_iand, wp_ior, wp_ixor, wp_ishl, wp_ishr, wp_getI, wp_putI, wp_getR, wp_goto, wp_goto_w, wq_if_eq, wq_if_ne, wq_if_lt, wq_if_ge, wq_if_gt, wq_if_le, wq_icmp_eq, wq_icmp_ne, wq_icmp_lt, wq_icmp_ge, wq_icmp_gt, wq_icmp_le, wp_max, wp_min, kI_inl, kR_some, kN_inl, kO_some, KT_none, KT_some, List.length_cons, List.length_nil, Nat.reduceAdd, Nat.reduceLT, Nat.reduceLeDiff, Nat.reduceMod, Nat.reduceDiv, true_and, and_true, Int.reduceLE, Int.reduceNeg, Int.reduceLT, Int.cast_ofNat_Int, Nat.zero_le, zI, Int.reduceAdd, Int.reduceSub, Int.reduceMul, not_true_eq_false, not_false_eq_true, false_implies, true_implies, i01_0, i01_1, ite_not, ↓reduceIte, zget_0, zget_1, zget_2, zget_3, zget_4, zget_5, zget_6, zget_7, zget_8, zget_9, zget_10, zset_0, zset_1, zset_2, zset_3, zset_4, zset_5, zset_6, zset_7, zset_8, zset_9, zset_10, k0, r0, r1, r2, r3, wp_iaload k1, wp_iaload k2, wp_iaload k3, wp_iaload k4, wp_iastore k1, wp_iastore k2, wp_iastore k3, wp_iastore k4, c_get ht, l_isBehind ht 4, Int.zero_add]
def hgf (c : Int → Int) (dv : Int) (e s : Int) : Int := if 0 < gt c e 0 ∧ bhB c e dv = true then max s (dpf c 5 (gt c e 1) - dpf c 5 (gt c dv 1)) else s
theorem l_height (ht : zT t) : ∀ (n : Nat) (i s : Int), 0 ≤ i → i + n = 20 → ∀ Q, wp none (d + 2) 68 (zpg 68 4) [.inr (some t), .inl dv, .inl s, .inl i] [] im Q ↔ Q (some (.inl (lp (hgf (im (t + 1)) dv) n i s))) im
  | 0, i, s, h0, h1, Q => by
    have k0 := (zT_k ht).1
    have k1 := (zT_k ht).2.1
    have k2 := (zT_k ht).2.2.1
    have k3 := (zT_k ht).2.2.2.1
    have k4 := (zT_k ht).2.2.2.2
    have r0 := (zT_r0 _ ht).1
    have r1 := (zT_r0 _ ht).2.1
    have r2 := (zT_r0 _ ht).2.2.1
    have r3 := (zT_r0 _ ht).2.2.2
    rw [pg_68_4]
    simp only [en_68, wp_ireturn rk_68, pg_68_0, pg_68_53, pg_68_59, cw_49, cw_51, cw_66, cw_67, wp_iload, wp_aload, wp_istore, wp_astore, wp_iinc, wp_iconst, wp_dup, wp_dup2, wp_pop, wp_iadd, wp_isub, wp_imul, wp_idiv, wp_irem, wp_ineg, wp_iand, wp_ior, wp_ixor, wp_ishl, wp_ishr, wp_getI, wp_putI, wp_getR, wp_goto, wp_goto_w, wq_if_eq, wq_if_ne, wq_if_lt, wq_if_ge, wq_if_gt, wq_if_le, wq_icmp_eq, wq_icmp_ne, wq_icmp_lt, wq_icmp_ge, wq_icmp_gt, wq_icmp_le, wp_max, wp_min, kI_inl, kR_some, kN_inl, kO_some, KT_none, KT_some, List.length_cons, List.length_nil, Nat.reduceAdd, Nat.reduceLT, Nat.reduceLeDiff, Nat.reduceMod, Nat.reduceDiv, true_and, and_true, Int.reduceLE, Int.reduceNeg, Int.reduceLT, Int.cast_ofNat_Int, Nat.zero_le, zI, Int.reduceAdd, Int.reduceSub, Int.reduceMul, not_true_eq_false, not_false_eq_true, false_implies, true_implies, i01_0, i01_1, ite_not, ↓reduceIte, zget_0, zget_1, zget_2, zget_3, zget_4, zget_5, zget_6, zget_7, zget_8, zget_9, zget_10, zset_0, zset_1, zset_2, zset_3, zset_4, zset_5, zset_6, zset_7, zset_8, zset_9, zset_10, k0, r0, r1, r2, r3, wp_iaload k1, wp_iaload k2, wp_iaload k3, wp_iaload k4, wp_iastore k1, wp_iastore k2, wp_iastore k3, wp_iastore k4, c_isThere ht, show (20 : Int) ≤ i by omega]
    grind [lp]
  | n + 1, i, s, h0, h1, Q => by
    have k0 := (zT_k ht).1
    have k1 := (zT_k ht).2.1
    have k2 := (zT_k ht).2.2.1
    have k3 := (zT_k ht).2.2.2.1
    have k4 := (zT_k ht).2.2.2.2
    have r0 := (zT_r0 _ ht).1
    have r1 := (zT_r0 _ ht).2.1
    have r2 := (zT_r0 _ ht).2.2.1
    have r3 := (zT_r0 _ ht).2.2.2
    have ih := l_height ht n (i + 1)
    have d1 := dpf_rg (im (t + 1)) 5 (gt (im (t + 1)) i 1)
    have d2 := dpf_rg (im (t + 1)) 5 (gt (im (t + 1)) dv 1)
    rw [pg_68_4]
    simp (disch := omega) only [en_68, wp_ireturn rk_68, pg_68_0, pg_68_53, pg_68_59, cw_49, cw_51, cw_66, cw_67, wp_iload, wp_aload, wp_istore, wp_astore, wp_iinc, wp_iconst, wp_dup, wp_dup2, wp_pop, wp_iadd, wp_isub, wp_imul, wp_idiv, wp_irem, wp_ineg, wp_iand, wp_ior, wp_ixor, wp_ishl, wp_ishr, wp_getI, wp_putI, wp_getR, wp_goto, wp_goto_w, wq_if_eq, wq_if_ne, wq_if_lt, wq_if_ge, wq_if_gt, wq_if_le, wq_icmp_eq, wq_icmp_ne, wq_icmp_lt, wq_icmp_ge, wq_icmp_gt, wq_icmp_le, wp_max, wp_min, kI_inl, kR_some, kN_inl, kO_some, KT_none, KT_some, List.length_cons, List.length_nil, Nat.reduceAdd, Nat.reduceLT, Nat.reduceLeDiff, Nat.reduceMod, Nat.reduceDiv, true_and, and_true, Int.reduceLE, Int.reduceNeg, Int.reduceLT, Int.cast_ofNat_Int, Nat.zero_le, zI, Int.reduceAdd, Int.reduceSub, Int.reduceMul, not_true_eq_false, not_false_eq_true, false_implies, true_implies, i01_0, i01_1, ite_not, ↓reduceIte, zget_0, zget_1, zget_2, zget_3, zget_4, zget_5, zget_6, zget_7, zget_8, zget_9, zget_10, zset_0, zset_1, zset_2, zset_3, zset_4, zset_5, zset_6, zset_7, zset_8, zset_9, zset_10, k0, r0, r1, r2, r3, wp_iaload k1, wp_iaload k2, wp_iaload k3, wp_iaload k4, wp_iastore k1, wp_iastore k2, wp_iastore k3, wp_iastore k4, c_isThere ht, c_isBehind ht, c_depth ht, c_get ht, show ¬ (20 : Int) ≤ i by omega, ih]
    clear ih
    clear k0 k1 k2 k3 k4 r0 r1 r2 r3
    grind (splits := 20) [lp, hgf]
theorem c_height (ht : zT t) : CallP (d + 2) 68 [.inr (some t), .inl dv] im Q ↔ Q (some (.inl (lp (hgf (im (t + 1)) dv) 20 0 0))) im := by
  have k0 := (zT_k ht).1
  have k1 := (zT_k ht).2.1
  have k2 := (zT_k ht).2.2.1
  have k3 := (zT_k ht).2.2.2.1
  have k4 := (zT_k ht).2.2.2.2
  have r0 := (zT_r0 _ ht).1
  have r1 := (zT_r0 _ ht).2.1
  have r2 := (zT_r0 _ ht).2.2.1
  have r3 := (zT_r0 _ ht).2.2.2
  simp (disch := omega) only [en_68, wp_ireturn rk_68, pg_68_0, pg_68_53, pg_68_59, cw_49, cw_51, cw_66, cw_67, wp_iload, wp_aload, wp_istore, wp_astore, wp_iinc, wp_iconst, wp_dup, wp_dup2, wp_pop, wp_iadd, wp_isub, wp_imul, wp_idiv, wp_irem, wp_ineg, wp_iand, wp_ior, wp_ixor, wp_ishl, wp_ishr, wp_getI, wp_putI, wp_getR, wp_goto, wp_goto_w, wq_if_eq, wq_if_ne, wq_if_lt, wq_if_ge, wq_if_gt, wq_if_le, wq_icmp_eq, wq_icmp_ne, wq_icmp_lt, wq_icmp_ge, wq_icmp_gt, wq_icmp_le, wp_max, wp_min, kI_inl, kR_some, kN_inl, kO_some, KT_none, KT_some, List.length_cons, List.length_nil, Nat.reduceAdd, Nat.reduceLT, Nat.reduceLeDiff, Nat.reduceMod, Nat.reduceDiv, true_and, and_true, Int.reduceLE, Int.reduceNeg, Int.reduceLT, Int.cast_ofNat_Int, Nat.zero_le, zI, Int.reduceAdd, Int.reduceSub, Int.reduceMul, not_true_eq_false, not_false_eq_true, false_implies, true_implies, i01_0, i01_1, ite_not, ↓reduceIte, zget_0, zget_1, zget_2, zget_3, zget_4, zget_5, zget_6, zget_7, zget_8, zget_9, zget_10, zset_0, zset_1, zset_2, zset_3, zset_4, zset_5, zset_6, zset_7, zset_8, zset_9, zset_10, k0, r0, r1, r2, r3, wp_iaload k1, wp_iaload k2, wp_iaload k3, wp_iaload k4, wp_iastore k1, wp_iastore k2, wp_iastore k3, wp_iastore k4, l_height ht 20]
theorem c_takes (ht : zT t) (hv : -1000 ≤ v ∧ v ≤ 1000) : CallP (d + 3) 69 [.inr (some t), .inl a, .inl sl, .inl v] im Q ↔ Q (some (.inl (if (a = -1 ∨ gt (im (t + 1)) a 0 = 2) ∧ 0 ≤ sl ∧ sl < 8 ∧ ff (plgB (im (t + 1)) a sl) 20 0 = -1 ∧ dpf (im (t + 1)) 5 a + v ≤ 4 then 1 else 0))) im := by
  have k0 := (zT_k ht).1
  have k1 := (zT_k ht).2.1
  have k2 := (zT_k ht).2.2.1
  have k3 := (zT_k ht).2.2.2.1
  have k4 := (zT_k ht).2.2.2.2
  have r0 := (zT_r0 _ ht).1
  have r1 := (zT_r0 _ ht).2.1
  have r2 := (zT_r0 _ ht).2.2.1
  have r3 := (zT_r0 _ ht).2.2.2
  have d1 := dpf_rg (im (t + 1)) 5 a
  simp only [en_69, wp_zreturn rk_69, pg_69_0, pg_69_43, pg_69_44, cw_55, cw_64, cw_66, wp_iload, wp_aload, wp_istore, wp_astore, wp_iinc, wp_iconst, wp_dup, wp_dup2, wp_pop, wp_iadd, wp_isub, wp_imul, wp_idiv, wp_irem, wp_ineg, wp_iand, wp_ior, wp_ixor, wp_ishl, wp_ishr, wp_getI, wp_putI, wp_getR, wp_goto, wp_goto_w, wq_if_eq, wq_if_ne, wq_if_lt, wq_if_ge, wq_if_gt, wq_if_le, wq_icmp_eq, wq_icmp_ne, wq_icmp_lt, wq_icmp_ge, wq_icmp_gt, wq_icmp_le, wp_max, wp_min, kI_inl, kR_some, kN_inl, kO_some, KT_none, KT_some, List.length_cons, List.length_nil, Nat.reduceAdd, Nat.reduceLT, Nat.reduceLeDiff, Nat.reduceMod, Nat.reduceDiv, true_and, and_true, Int.reduceLE, Int.reduceNeg, Int.reduceLT, Int.cast_ofNat_Int, Nat.zero_le, zI, Int.reduceAdd, Int.reduceSub, Int.reduceMul, not_true_eq_false, not_false_eq_true, false_implies, true_implies, i01_0, i01_1, ite_not, ↓reduceIte, zget_0, zget_1, zget_2, zget_3, zget_4, zget_5, zget_6, zget_7, zget_8, zget_9, zget_10, zset_0, zset_1, zset_2, zset_3, zset_4, zset_5, zset_6, zset_7, zset_8, zset_9, zset_10, k0, r0, r1, r2, r3, wp_iaload k1, wp_iaload k2, wp_iaload k3, wp_iaload k4, wp_iastore k1, wp_iastore k2, wp_iastore k3, wp_iastore k4, c_hasBus ht, c_plugged ht, c_depth ht]
  clear k0 k1 k2 k3 k4 r0 r1 r2 r3
  grind (splits := 20)
/-- a number is free on a bus -/
def rgB (c w : Int → Int) (n a num : Int) (i : Int) : Bool := decide (gt c (wka w n i) 1 = a ∧ gt c (wka w n i) 0 = 2 ∧ gt c (wka w n i) 3 = 1 ∧ gt c (wka w n i) 7 ≤ num ∧ num ≤ gt c (wka w n i) 8)
theorem l_isFree (ht : zT t) (hn : im t 4 ≤ 20) : ∀ (n : Nat) (i : Int) (x0 : zV), 0 ≤ i → i + n = ((im t 4).toNat : Nat) → ∀ Q, wp none (d + 2) 63 (zpg 63 22) [.inr (some t), .inl a, .inl b, .inl i, x0] [] im Q ↔ Q (some (.inl (if ff (rgB (im (t + 1)) (im (t + 3)) (im t 4) a b) n i = -1 then 1 else 0))) im
  | 0, i, x0, h0, h1, Q => by
    have k0 := (zT_k ht).1
    have k1 := (zT_k ht).2.1
    have k2 := (zT_k ht).2.2.1
    have k3 := (zT_k ht).2.2.2.1
    have k4 := (zT_k ht).2.2.2.2
    have r0 := (zT_r0 _ ht).1
    have r1 := (zT_r0 _ ht).2.1
    have r2 := (zT_r0 _ ht).2.2.1
    have r3 := (zT_r0 _ ht).2.2.2
    rw [pg_63_22]
    simp only [en_63, wp_zreturn rk_63, pg_63_0, pg_63_18, pg_63_20, pg_63_92, pg_63_98, cw_49, cw_53, cw_54, cw_58, cw_61, cw_62, wp_iload, wp_aload, wp_istore, wp_astore, wp_iinc, wp_iconst, wp_dup, wp_dup2, wp_pop, wp_iadd, wp_isub, wp_imul, wp_idiv, wp_irem, wp_ineg, wp_iand, wp_ior, wp_ixor, wp_ishl, wp_ishr, wp_getI, wp_putI, wp_getR, wp_goto, wp_goto_w, wq_if_eq, wq_if_ne, wq_if_lt, wq_if_ge, wq_if_gt, wq_if_le, wq_icmp_eq, wq_icmp_ne, wq_icmp_lt, wq_icmp_ge, wq_icmp_gt, wq_icmp_le, wp_max, wp_min, kI_inl, kR_some, kN_inl, kO_some, KT_none, KT_some, List.length_cons, List.length_nil, Nat.reduceAdd, Nat.reduceLT, Nat.reduceLeDiff, Nat.reduceMod, Nat.reduceDiv, true_and, and_true, Int.reduceLE, Int.reduceNeg, Int.reduceLT, Int.cast_ofNat_Int, Nat.zero_le, zI, Int.reduceAdd, Int.reduceSub, Int.reduceMul, not_true_eq_false, not_false_eq_true, false_implies, true_implies, i01_0, i01_1, ite_not, ↓reduceIte, zget_0, zget_1, zget_2, zget_3, zget_4, zget_5, zget_6, zget_7, zget_8, zget_9, zget_10, zset_0, zset_1, zset_2, zset_3, zset_4, zset_5, zset_6, zset_7, zset_8, zset_9, zset_10, k0, r0, r1, r2, r3, wp_iaload k1, wp_iaload k2, wp_iaload k3, wp_iaload k4, wp_iastore k1, wp_iastore k2, wp_iastore k3, wp_iastore k4, c_walkAt ht, c_get ht, c_isBridge ht, c_isOn ht]
    clear k0 k1 k2 k3 k4 r0 r1 r2 r3
    grind [ff]
  | n + 1, i, x0, h0, h1, Q => by
    have k0 := (zT_k ht).1
    have k1 := (zT_k ht).2.1
    have k2 := (zT_k ht).2.2.1
    have k3 := (zT_k ht).2.2.2.1
    have k4 := (zT_k ht).2.2.2.2
    have r0 := (zT_r0 _ ht).1
    have r1 := (zT_r0 _ ht).2.1
    have r2 := (zT_r0 _ ht).2.2.1
    have r3 := (zT_r0 _ ht).2.2.2
    have ih := l_isFree ht hn n (i + 1)
    rw [pg_63_22]
    simp (disch := omega) only [en_63, wp_zreturn rk_63, pg_63_0, pg_63_18, pg_63_20, pg_63_92, pg_63_98, cw_49, cw_53, cw_54, cw_58, cw_61, cw_62, wp_iload, wp_aload, wp_istore, wp_astore, wp_iinc, wp_iconst, wp_dup, wp_dup2, wp_pop, wp_iadd, wp_isub, wp_imul, wp_idiv, wp_irem, wp_ineg, wp_iand, wp_ior, wp_ixor, wp_ishl, wp_ishr, wp_getI, wp_putI, wp_getR, wp_goto, wp_goto_w, wq_if_eq, wq_if_ne, wq_if_lt, wq_if_ge, wq_if_gt, wq_if_le, wq_icmp_eq, wq_icmp_ne, wq_icmp_lt, wq_icmp_ge, wq_icmp_gt, wq_icmp_le, wp_max, wp_min, kI_inl, kR_some, kN_inl, kO_some, KT_none, KT_some, List.length_cons, List.length_nil, Nat.reduceAdd, Nat.reduceLT, Nat.reduceLeDiff, Nat.reduceMod, Nat.reduceDiv, true_and, and_true, Int.reduceLE, Int.reduceNeg, Int.reduceLT, Int.cast_ofNat_Int, Nat.zero_le, zI, Int.reduceAdd, Int.reduceSub, Int.reduceMul, not_true_eq_false, not_false_eq_true, false_implies, true_implies, i01_0, i01_1, ite_not, ↓reduceIte, zget_0, zget_1, zget_2, zget_3, zget_4, zget_5, zget_6, zget_7, zget_8, zget_9, zget_10, zset_0, zset_1, zset_2, zset_3, zset_4, zset_5, zset_6, zset_7, zset_8, zset_9, zset_10, k0, r0, r1, r2, r3, wp_iaload k1, wp_iaload k2, wp_iaload k3, wp_iaload k4, wp_iastore k1, wp_iastore k2, wp_iastore k3, wp_iastore k4, c_walkAt ht, c_get ht, c_isBridge ht, c_isOn ht, ih]
    clear ih
    clear k0 k1 k2 k3 k4 r0 r1 r2 r3
    grind (splits := 40) [ff, rgB]
theorem c_isFree (ht : zT t) (hn : im t 4 ≤ 20) : CallP (d + 2) 63 [.inr (some t), .inl a, .inl b] im Q ↔ Q (some (.inl (if fstf (im (t + 1)) a < b ∧ b ≤ lstf (im (t + 1)) a ∧ ff (rgB (im (t + 1)) (im (t + 3)) (im t 4) a b) (im t 4).toNat 0 = -1 then 1 else 0))) im := by
  have k0 := (zT_k ht).1
  have k1 := (zT_k ht).2.1
  have k2 := (zT_k ht).2.2.1
  have k3 := (zT_k ht).2.2.2.1
  have k4 := (zT_k ht).2.2.2.2
  have r0 := (zT_r0 _ ht).1
  have r1 := (zT_r0 _ ht).2.1
  have r2 := (zT_r0 _ ht).2.2.1
  have r3 := (zT_r0 _ ht).2.2.2
  have hl := l_isFree (d := d) (a := a) (b := b) ht hn (im t 4).toNat 0
  simp (disch := omega) only [en_63, wp_zreturn rk_63, pg_63_0, pg_63_18, pg_63_20, pg_63_92, pg_63_98, cw_49, cw_53, cw_54, cw_58, cw_61, cw_62, wp_iload, wp_aload, wp_istore, wp_astore, wp_iinc, wp_iconst, wp_dup, wp_dup2, wp_pop, wp_iadd, wp_isub, wp_imul, wp_idiv, wp_irem, wp_ineg, wp_iand, wp_ior, wp_ixor, wp_ishl, wp_ishr, wp_getI, wp_putI, wp_getR, wp_goto, wp_goto_w, wq_if_eq, wq_if_ne, wq_if_lt, wq_if_ge, wq_if_gt, wq_if_le, wq_icmp_eq, wq_icmp_ne, wq_icmp_lt, wq_icmp_ge, wq_icmp_gt, wq_icmp_le, wp_max, wp_min, kI_inl, kR_some, kN_inl, kO_some, KT_none, KT_some, List.length_cons, List.length_nil, Nat.reduceAdd, Nat.reduceLT, Nat.reduceLeDiff, Nat.reduceMod, Nat.reduceDiv, true_and, and_true, Int.reduceLE, Int.reduceNeg, Int.reduceLT, Int.cast_ofNat_Int, Nat.zero_le, zI, Int.reduceAdd, Int.reduceSub, Int.reduceMul, not_true_eq_false, not_false_eq_true, false_implies, true_implies, i01_0, i01_1, ite_not, ↓reduceIte, zget_0, zget_1, zget_2, zget_3, zget_4, zget_5, zget_6, zget_7, zget_8, zget_9, zget_10, zset_0, zset_1, zset_2, zset_3, zset_4, zset_5, zset_6, zset_7, zset_8, zset_9, zset_10, k0, r0, r1, r2, r3, wp_iaload k1, wp_iaload k2, wp_iaload k3, wp_iaload k4, wp_iastore k1, wp_iastore k2, wp_iastore k3, wp_iastore k4, c_firstNumber ht, c_lastNumber ht, hl]
  clear hl
  clear k0 k1 k2 k3 k4 r0 r1 r2 r3
  grind (splits := 20)
end TV
