/-! THE CLASS'S TREE: more scans; clearing, turning off -/
section TU
variable {d t : Nat} {im : zM} {Q : Option zV → zM → Prop} {a b v dv kd : Int}
def brB (c : Int → Int) (e : Int) : Bool := decide (gt c e 0 = 2)
theorem l_countBridges (ht : zT t) : ∀ (n : Nat) (i s : Int), 0 ≤ i → i + n = 20 → 0 ≤ s → s ≤ i → ∀ Q, wp none (d + 2) 81 (zpg 81 4) [.inr (some t), .inl s, .inl i] [] im Q ↔ Q (some (.inl (lp (cntf (brB (im (t + 1)))) n i s))) im
  | 0, i, s, h0, h1, h2, h3, Q => by
    have k0 := (zT_k ht).1
    have k1 := (zT_k ht).2.1
    have k2 := (zT_k ht).2.2.1
    have k3 := (zT_k ht).2.2.2.1
    have k4 := (zT_k ht).2.2.2.2
    have r0 := (zT_r0 _ ht).1
    have r1 := (zT_r0 _ ht).2.1
    have r2 := (zT_r0 _ ht).2.2.1
    have r3 := (zT_r0 _ ht).2.2.2
    rw [pg_81_4]
    simp only [en_81, wp_ireturn rk_81, pg_81_0, pg_81_21, pg_81_27, cw_53, wp_iload, wp_aload, wp_istore, wp_astore, wp_iinc, wp_iconst, wp_dup, wp_dup2, wp_pop, wp_iadd, wp_isub, wp_imul, wp_idiv, wp_irem, wp_ineg, wp_iand, wp_ior, wp_ixor, wp_ishl, wp_ishr, wp_getI, wp_putI, wp_getR, wp_goto, wp_goto_w, wq_if_eq, wq_if_ne, wq_if_lt, wq_if_ge, wq_if_gt, wq_if_le, wq_icmp_eq, wq_icmp_ne, wq_icmp_lt, wq_icmp_ge, wq_icmp_gt, wq_icmp_le, wp_max, wp_min, kI_inl, kR_some, kN_inl, kO_some, KT_none, KT_some, List.length_cons, List.length_nil, Nat.reduceAdd, Nat.reduceLT, Nat.reduceLeDiff, Nat.reduceMod, Nat.reduceDiv, true_and, and_true, Int.reduceLE, Int.reduceNeg, Int.reduceLT, Int.cast_ofNat_Int, Nat.zero_le, zI, Int.reduceAdd, Int.reduceSub, Int.reduceMul, not_true_eq_false, not_false_eq_true, false_implies, true_implies, i01_0, i01_1, ite_not, ↓reduceIte, zget_0, zget_1, zget_2, zget_3, zget_4, zget_5, zget_6, zget_7, zget_8, zget_9, zget_10, zset_0, zset_1, zset_2, zset_3, zset_4, zset_5, zset_6, zset_7, zset_8, zset_9, zset_10, k0, r0, r1, r2, r3, wp_iaload k1, wp_iaload k2, wp_iaload k3, wp_iaload k4, wp_iastore k1, wp_iastore k2, wp_iastore k3, wp_iastore k4, c_isBridge ht]
    grind [lp]
  | n + 1, i, s, h0, h1, h2, h3, Q => by
    have k0 := (zT_k ht).1
    have k1 := (zT_k ht).2.1
    have k2 := (zT_k ht).2.2.1
    have k3 := (zT_k ht).2.2.2.1
    have k4 := (zT_k ht).2.2.2.2
    have r0 := (zT_r0 _ ht).1
    have r1 := (zT_r0 _ ht).2.1
    have r2 := (zT_r0 _ ht).2.2.1
    have r3 := (zT_r0 _ ht).2.2.2
    have ih := l_countBridges ht n (i + 1)
    rw [pg_81_4]
    simp (disch := omega) only [en_81, wp_ireturn rk_81, pg_81_0, pg_81_21, pg_81_27, cw_53, wp_iload, wp_aload, wp_istore, wp_astore, wp_iinc, wp_iconst, wp_dup, wp_dup2, wp_pop, wp_iadd, wp_isub, wp_imul, wp_idiv, wp_irem, wp_ineg, wp_iand, wp_ior, wp_ixor, wp_ishl, wp_ishr, wp_getI, wp_putI, wp_getR, wp_goto, wp_goto_w, wq_if_eq, wq_if_ne, wq_if_lt, wq_if_ge, wq_if_gt, wq_if_le, wq_icmp_eq, wq_icmp_ne, wq_icmp_lt, wq_icmp_ge, wq_icmp_gt, wq_icmp_le, wp_max, wp_min, kI_inl, kR_some, kN_inl, kO_some, KT_none, KT_some, List.length_cons, List.length_nil, Nat.reduceAdd, Nat.reduceLT, Nat.reduceLeDiff, Nat.reduceMod, Nat.reduceDiv, true_and, and_true, Int.reduceLE, Int.reduceNeg, Int.reduceLT, Int.cast_ofNat_Int, Nat.zero_le, zI, Int.reduceAdd, Int.reduceSub, Int.reduceMul, not_true_eq_false, not_false_eq_true, false_implies, true_implies, i01_0, i01_1, ite_not, ↓reduceIte, zget_0, zget_1, zget_2, zget_3, zget_4, zget_5, zget_6, zget_7, zget_8, zget_9, zget_10, zset_0, zset_1, zset_2, zset_3, zset_4, zset_5, zset_6, zset_7, zset_8, zset_9, zset_10, k0, r0, r1, r2, r3, wp_iaload k1, wp_iaload k2, wp_iaload k3, wp_iaload k4, wp_iastore k1, wp_iastore k2, wp_iastore k3, wp_iastore k4, c_isBridge ht, ih]
    grind [lp, cntf, brB]
theorem c_countBridges (ht : zT t) : CallP (d + 2) 81 [.inr (some t)] im Q ↔ Q (some (.inl (lp (cntf (brB (im (t + 1)))) 20 0 0))) im := by
  have k0 := (zT_k ht).1
  have k1 := (zT_k ht).2.1
  have k2 := (zT_k ht).2.2.1
  have k3 := (zT_k ht).2.2.2.1
  have k4 := (zT_k ht).2.2.2.2
  have r0 := (zT_r0 _ ht).1
  have r1 := (zT_r0 _ ht).2.1
  have r2 := (zT_r0 _ ht).2.2.1
  have r3 := (zT_r0 _ ht).2.2.2
  simp (disch := omega) only [en_81, wp_ireturn rk_81, pg_81_0, pg_81_21, pg_81_27, cw_53, wp_iload, wp_aload, wp_istore, wp_astore, wp_iinc, wp_iconst, wp_dup, wp_dup2, wp_pop, wp_iadd, wp_isub, wp_imul, wp_idiv, wp_irem, wp_ineg, wp_iand, wp_ior, wp_ixor, wp_ishl, wp_ishr, wp_getI, wp_putI, wp_getR, wp_goto, wp_goto_w, wq_if_eq, wq_if_ne, wq_if_lt, wq_if_ge, wq_if_gt, wq_if_le, wq_icmp_eq, wq_icmp_ne, wq_icmp_lt, wq_icmp_ge, wq_icmp_gt, wq_icmp_le, wp_max, wp_min, kI_inl, kR_some, kN_inl, kO_some, KT_none, KT_some, List.length_cons, List.length_nil, Nat.reduceAdd, Nat.reduceLT, Nat.reduceLeDiff, Nat.reduceMod, Nat.reduceDiv, true_and, and_true, Int.reduceLE, Int.reduceNeg, Int.reduceLT, Int.cast_ofNat_Int, Nat.zero_le, zI, Int.reduceAdd, Int.reduceSub, Int.reduceMul, not_true_eq_false, not_false_eq_true, false_implies, true_implies, i01_0, i01_1, ite_not, ↓reduceIte, zget_0, zget_1, zget_2, zget_3, zget_4, zget_5, zget_6, zget_7, zget_8, zget_9, zget_10, zset_0, zset_1, zset_2, zset_3, zset_4, zset_5, zset_6, zset_7, zset_8, zset_9, zset_10, k0, r0, r1, r2, r3, wp_iaload k1, wp_iaload k2, wp_iaload k3, wp_iaload k4, wp_iastore k1, wp_iastore k2, wp_iastore k3, wp_iastore k4, l_countBridges ht 20]
/-- what counts on: an endpoint has at most three apertures, of at most 256 units -/
def TB (c : Int → Int) : Prop := ∀ e, gt c e 6 ≤ 3 ∧ ∀ a, 0 ≤ a → a < 3 → 0 ≤ gt c e (12 + a) + 1 ∧ gt c e (12 + a) ≤ 256
def capf (c : Int → Int) (e s : Int) : Int := if gt c e 0 = 1 ∧ gt c e 3 = 1 then s + gt c e 6 else s
theorem l_countAps (ht : zT t) (hb : TB (im (t + 1))) (hb2 : ∀ e, 0 ≤ gt (im (t + 1)) e 6 + 1) : ∀ (n : Nat) (i s : Int), 0 ≤ i → i + n = 20 → -i ≤ s → s ≤ 3 * i → ∀ Q, wp none (d + 2) 82 (zpg 82 4) [.inr (some t), .inl s, .inl i] [] im Q ↔ Q (some (.inl (lp (capf (im (t + 1))) n i s))) im
  | 0, i, s, h0, h1, h2, h3, Q => by
    have k0 := (zT_k ht).1
    have k1 := (zT_k ht).2.1
    have k2 := (zT_k ht).2.2.1
    have k3 := (zT_k ht).2.2.2.1
    have k4 := (zT_k ht).2.2.2.2
    have r0 := (zT_r0 _ ht).1
    have r1 := (zT_r0 _ ht).2.1
    have r2 := (zT_r0 _ ht).2.2.1
    have r3 := (zT_r0 _ ht).2.2.2
    rw [pg_82_4]
    simp only [en_82, wp_ireturn rk_82, pg_82_0, pg_82_36, pg_82_42, cw_49, cw_52, cw_54, wp_iload, wp_aload, wp_istore, wp_astore, wp_iinc, wp_iconst, wp_dup, wp_dup2, wp_pop, wp_iadd, wp_isub, wp_imul, wp_idiv, wp_irem, wp_ineg, wp_iand, wp_ior, wp_ixor, wp_ishl, wp_ishr, wp_getI, wp_putI, wp_getR, wp_goto, wp_goto_w, wq_if_eq, wq_if_ne, wq_if_lt, wq_if_ge, wq_if_gt, wq_if_le, wq_icmp_eq, wq_icmp_ne, wq_icmp_lt, wq_icmp_ge, wq_icmp_gt, wq_icmp_le, wp_max, wp_min, kI_inl, kR_some, kN_inl, kO_some, KT_none, KT_some, List.length_cons, List.length_nil, Nat.reduceAdd, Nat.reduceLT, Nat.reduceLeDiff, Nat.reduceMod, Nat.reduceDiv, true_and, and_true, Int.reduceLE, Int.reduceNeg, Int.reduceLT, Int.cast_ofNat_Int, Nat.zero_le, zI, Int.reduceAdd, Int.reduceSub, Int.reduceMul, not_true_eq_false, not_false_eq_true, false_implies, true_implies, i01_0, i01_1, ite_not, ↓reduceIte, zget_0, zget_1, zget_2, zget_3, zget_4, zget_5, zget_6, zget_7, zget_8, zget_9, zget_10, zset_0, zset_1, zset_2, zset_3, zset_4, zset_5, zset_6, zset_7, zset_8, zset_9, zset_10, k0, r0, r1, r2, r3, wp_iaload k1, wp_iaload k2, wp_iaload k3, wp_iaload k4, wp_iastore k1, wp_iastore k2, wp_iastore k3, wp_iastore k4, c_isEndpoint ht, c_isOn ht, c_get ht]
    grind [lp]
  | n + 1, i, s, h0, h1, h2, h3, Q => by
    have k0 := (zT_k ht).1
    have k1 := (zT_k ht).2.1
    have k2 := (zT_k ht).2.2.1
    have k3 := (zT_k ht).2.2.2.1
    have k4 := (zT_k ht).2.2.2.2
    have r0 := (zT_r0 _ ht).1
    have r1 := (zT_r0 _ ht).2.1
    have r2 := (zT_r0 _ ht).2.2.1
    have r3 := (zT_r0 _ ht).2.2.2
    have hbi := (hb i).1
    have hbj := hb2 i
    have ih := l_countAps ht hb hb2 n (i + 1)
    rw [pg_82_4]
    simp (disch := omega) only [en_82, wp_ireturn rk_82, pg_82_0, pg_82_36, pg_82_42, cw_49, cw_52, cw_54, wp_iload, wp_aload, wp_istore, wp_astore, wp_iinc, wp_iconst, wp_dup, wp_dup2, wp_pop, wp_iadd, wp_isub, wp_imul, wp_idiv, wp_irem, wp_ineg, wp_iand, wp_ior, wp_ixor, wp_ishl, wp_ishr, wp_getI, wp_putI, wp_getR, wp_goto, wp_goto_w, wq_if_eq, wq_if_ne, wq_if_lt, wq_if_ge, wq_if_gt, wq_if_le, wq_icmp_eq, wq_icmp_ne, wq_icmp_lt, wq_icmp_ge, wq_icmp_gt, wq_icmp_le, wp_max, wp_min, kI_inl, kR_some, kN_inl, kO_some, KT_none, KT_some, List.length_cons, List.length_nil, Nat.reduceAdd, Nat.reduceLT, Nat.reduceLeDiff, Nat.reduceMod, Nat.reduceDiv, true_and, and_true, Int.reduceLE, Int.reduceNeg, Int.reduceLT, Int.cast_ofNat_Int, Nat.zero_le, zI, Int.reduceAdd, Int.reduceSub, Int.reduceMul, not_true_eq_false, not_false_eq_true, false_implies, true_implies, i01_0, i01_1, ite_not, ↓reduceIte, zget_0, zget_1, zget_2, zget_3, zget_4, zget_5, zget_6, zget_7, zget_8, zget_9, zget_10, zset_0, zset_1, zset_2, zset_3, zset_4, zset_5, zset_6, zset_7, zset_8, zset_9, zset_10, k0, r0, r1, r2, r3, wp_iaload k1, wp_iaload k2, wp_iaload k3, wp_iaload k4, wp_iastore k1, wp_iastore k2, wp_iastore k3, wp_iastore k4, c_isEndpoint ht, c_isOn ht, c_get ht, ih]
    grind [lp, capf]
theorem c_countAps (ht : zT t) (hb : TB (im (t + 1))) (hb2 : ∀ e, 0 ≤ gt (im (t + 1)) e 6 + 1) : CallP (d + 2) 82 [.inr (some t)] im Q ↔ Q (some (.inl (lp (capf (im (t + 1))) 20 0 0))) im := by
  have k0 := (zT_k ht).1
  have k1 := (zT_k ht).2.1
  have k2 := (zT_k ht).2.2.1
  have k3 := (zT_k ht).2.2.2.1
  have k4 := (zT_k ht).2.2.2.2
  have r0 := (zT_r0 _ ht).1
  have r1 := (zT_r0 _ ht).2.1
  have r2 := (zT_r0 _ ht).2.2.1
  have r3 := (zT_r0 _ ht).2.2.2
  simp (disch := omega) only [en_82, wp_ireturn rk_82, pg_82_0, pg_82_36, pg_82_42, cw_49, cw_52, cw_54, wp_iload, wp_aload, wp_istore, wp_astore, wp_iinc, wp_iconst, wp_dup, wp_dup2, wp_pop, wp_iadd, wp_isub, wp_imul, wp_idiv, wp_irem, wp_ineg, wp_iand, wp_ior, wp_ixor, wp_ishl, wp_ishr, wp_getI, wp_putI, wp_getR, wp_goto, wp_goto_w, wq_if_eq, wq_if_ne, wq_if_lt, wq_if_ge, wq_if_gt, wq_if_le, wq_icmp_eq, wq_icmp_ne, wq_icmp_lt, wq_icmp_ge, wq_icmp_gt, wq_icmp_le, wp_max, wp_min, kI_inl, kR_some, kN_inl, kO_some, KT_none, KT_some, List.length_cons, List.length_nil, Nat.reduceAdd, Nat.reduceLT, Nat.reduceLeDiff, Nat.reduceMod, Nat.reduceDiv, true_and, and_true, Int.reduceLE, Int.reduceNeg, Int.reduceLT, Int.cast_ofNat_Int, Nat.zero_le, zI, Int.reduceAdd, Int.reduceSub, Int.reduceMul, not_true_eq_false, not_false_eq_true, false_implies, true_implies, i01_0, i01_1, ite_not, ↓reduceIte, zget_0, zget_1, zget_2, zget_3, zget_4, zget_5, zget_6, zget_7, zget_8, zget_9, zget_10, zset_0, zset_1, zset_2, zset_3, zset_4, zset_5, zset_6, zset_7, zset_8, zset_9, zset_10, k0, r0, r1, r2, r3, wp_iaload k1, wp_iaload k2, wp_iaload k3, wp_iaload k4, wp_iastore k1, wp_iastore k2, wp_iastore k3, wp_iastore k4, l_countAps ht hb hb2 20]
def gff (c : Int → Int) (e s : Int) : Int := if gt c e 0 = 2 ∧ gt c e 3 = 1 then max s (gt c e 7) else s
theorem l_greatestFirst (ht : zT t) : ∀ (n : Nat) (i s : Int), 0 ≤ i → i + n = 20 → ∀ Q, wp none (d + 2) 83 (zpg 83 4) [.inr (some t), .inl s, .inl i] [] im Q ↔ Q (some (.inl (lp (gff (im (t + 1))) n i s))) im
  | 0, i, s, h0, h1, Q => by
    have k0 := (zT_k ht).1
    have k1 := (zT_k ht).2.1
    have k2 := (zT_k ht).2.2.1
    have k3 := (zT_k ht).2.2.2.1
    have k4 := (zT_k ht).2.2.2.2
    have r0 := (zT_r0 _ ht).1
    have r1 := (zT_r0 _ ht).2.1
    have r2 := (zT_r0 _ ht).2.2.1
    have r3 := (zT_r0 _ ht).2.2.2
    rw [pg_83_4]
    simp only [en_83, wp_ireturn rk_83, pg_83_0, pg_83_38, pg_83_44, cw_49, cw_53, cw_54, wp_iload, wp_aload, wp_istore, wp_astore, wp_iinc, wp_iconst, wp_dup, wp_dup2, wp_pop, wp_iadd, wp_isub, wp_imul, wp_idiv, wp_irem, wp_ineg, wp_iand, wp_ior, wp_ixor, wp_ishl, wp_ishr, wp_getI, wp_putI, wp_getR, wp_goto, wp_goto_w, wq_if_eq, wq_if_ne, wq_if_lt, wq_if_ge, wq_if_gt, wq_if_le, wq_icmp_eq, wq_icmp_ne, wq_icmp_lt, wq_icmp_ge, wq_icmp_gt, wq_icmp_le, wp_max, wp_min, kI_inl, kR_some, kN_inl, kO_some, KT_none, KT_some, List.length_cons, List.length_nil, Nat.reduceAdd, Nat.reduceLT, Nat.reduceLeDiff, Nat.reduceMod, Nat.reduceDiv, true_and, and_true, Int.reduceLE, Int.reduceNeg, Int.reduceLT, Int.cast_ofNat_Int, Nat.zero_le, zI, Int.reduceAdd, Int.reduceSub, Int.reduceMul, not_true_eq_false, not_false_eq_true, false_implies, true_implies, i01_0, i01_1, ite_not, ↓reduceIte, zget_0, zget_1, zget_2, zget_3, zget_4, zget_5, zget_6, zget_7, zget_8, zget_9, zget_10, zset_0, zset_1, zset_2, zset_3, zset_4, zset_5, zset_6, zset_7, zset_8, zset_9, zset_10, k0, r0, r1, r2, r3, wp_iaload k1, wp_iaload k2, wp_iaload k3, wp_iaload k4, wp_iastore k1, wp_iastore k2, wp_iastore k3, wp_iastore k4, c_isBridge ht, c_isOn ht, c_get ht]
    grind [lp]
  | n + 1, i, s, h0, h1, Q => by
    have k0 := (zT_k ht).1
    have k1 := (zT_k ht).2.1
    have k2 := (zT_k ht).2.2.1
    have k3 := (zT_k ht).2.2.2.1
    have k4 := (zT_k ht).2.2.2.2
    have r0 := (zT_r0 _ ht).1
    have r1 := (zT_r0 _ ht).2.1
    have r2 := (zT_r0 _ ht).2.2.1
    have r3 := (zT_r0 _ ht).2.2.2
    have ih := l_greatestFirst ht n (i + 1)
    rw [pg_83_4]
    simp (disch := omega) only [en_83, wp_ireturn rk_83, pg_83_0, pg_83_38, pg_83_44, cw_49, cw_53, cw_54, wp_iload, wp_aload, wp_istore, wp_astore, wp_iinc, wp_iconst, wp_dup, wp_dup2, wp_pop, wp_iadd, wp_isub, wp_imul, wp_idiv, wp_irem, wp_ineg, wp_iand, wp_ior, wp_ixor, wp_ishl, wp_ishr, wp_getI, wp_putI, wp_getR, wp_goto, wp_goto_w, wq_if_eq, wq_if_ne, wq_if_lt, wq_if_ge, wq_if_gt, wq_if_le, wq_icmp_eq, wq_icmp_ne, wq_icmp_lt, wq_icmp_ge, wq_icmp_gt, wq_icmp_le, wp_max, wp_min, kI_inl, kR_some, kN_inl, kO_some, KT_none, KT_some, List.length_cons, List.length_nil, Nat.reduceAdd, Nat.reduceLT, Nat.reduceLeDiff, Nat.reduceMod, Nat.reduceDiv, true_and, and_true, Int.reduceLE, Int.reduceNeg, Int.reduceLT, Int.cast_ofNat_Int, Nat.zero_le, zI, Int.reduceAdd, Int.reduceSub, Int.reduceMul, not_true_eq_false, not_false_eq_true, false_implies, true_implies, i01_0, i01_1, ite_not, ↓reduceIte, zget_0, zget_1, zget_2, zget_3, zget_4, zget_5, zget_6, zget_7, zget_8, zget_9, zget_10, zset_0, zset_1, zset_2, zset_3, zset_4, zset_5, zset_6, zset_7, zset_8, zset_9, zset_10, k0, r0, r1, r2, r3, wp_iaload k1, wp_iaload k2, wp_iaload k3, wp_iaload k4, wp_iastore k1, wp_iastore k2, wp_iastore k3, wp_iastore k4, c_isBridge ht, c_isOn ht, c_get ht, ih]
    grind [lp, gff]
theorem c_greatestFirst (ht : zT t) : CallP (d + 2) 83 [.inr (some t)] im Q ↔ Q (some (.inl (lp (gff (im (t + 1))) 20 0 0))) im := by
  have k0 := (zT_k ht).1
  have k1 := (zT_k ht).2.1
  have k2 := (zT_k ht).2.2.1
  have k3 := (zT_k ht).2.2.2.1
  have k4 := (zT_k ht).2.2.2.2
  have r0 := (zT_r0 _ ht).1
  have r1 := (zT_r0 _ ht).2.1
  have r2 := (zT_r0 _ ht).2.2.1
  have r3 := (zT_r0 _ ht).2.2.2
  simp (disch := omega) only [en_83, wp_ireturn rk_83, pg_83_0, pg_83_38, pg_83_44, cw_49, cw_53, cw_54, wp_iload, wp_aload, wp_istore, wp_astore, wp_iinc, wp_iconst, wp_dup, wp_dup2, wp_pop, wp_iadd, wp_isub, wp_imul, wp_idiv, wp_irem, wp_ineg, wp_iand, wp_ior, wp_ixor, wp_ishl, wp_ishr, wp_getI, wp_putI, wp_getR, wp_goto, wp_goto_w, wq_if_eq, wq_if_ne, wq_if_lt, wq_if_ge, wq_if_gt, wq_if_le, wq_icmp_eq, wq_icmp_ne, wq_icmp_lt, wq_icmp_ge, wq_icmp_gt, wq_icmp_le, wp_max, wp_min, kI_inl, kR_some, kN_inl, kO_some, KT_none, KT_some, List.length_cons, List.length_nil, Nat.reduceAdd, Nat.reduceLT, Nat.reduceLeDiff, Nat.reduceMod, Nat.reduceDiv, true_and, and_true, Int.reduceLE, Int.reduceNeg, Int.reduceLT, Int.cast_ofNat_Int, Nat.zero_le, zI, Int.reduceAdd, Int.reduceSub, Int.reduceMul, not_true_eq_false, not_false_eq_true, false_implies, true_implies, i01_0, i01_1, ite_not, ↓reduceIte, zget_0, zget_1, zget_2, zget_3, zget_4, zget_5, zget_6, zget_7, zget_8, zget_9, zget_10, zset_0, zset_1, zset_2, zset_3, zset_4, zset_5, zset_6, zset_7, zset_8, zset_9, zset_10, k0, r0, r1, r2, r3, wp_iaload k1, wp_iaload k2, wp_iaload k3, wp_iaload k4, wp_iastore k1, wp_iastore k2, wp_iastore k3, wp_iastore k4, l_greatestFirst ht 20]
/-- an endpoint's units of a kind -/
def usf (c : Int → Int) (e k : Int) (a s : Int) : Int := if gt c e (9 + a) = k then s + gt c e (12 + a) else s
def unt (c : Int → Int) (e k : Int) : Int := lp (usf c e k) (gt c e 6).toNat 0 0
theorem l_unitsOf (ht : zT t) (hb : TB (im (t + 1))) : ∀ (n : Nat) (i s : Int), 0 ≤ i → i + n = ((gt (im (t + 1)) dv 6).toNat : Nat) → -i ≤ s → s ≤ 256 * i → ∀ Q, wp none (d + 1) 76 (zpg 76 5) [.inr (some t), .inl dv, .inl kd, .inl s, .inl i] [] im Q ↔ Q (some (.inl (lp (usf (im (t + 1)) dv kd) n i s))) im
  | 0, i, s, h0, h1, h2, h3, Q => by
    have k0 := (zT_k ht).1
    have k1 := (zT_k ht).2.1
    have k2 := (zT_k ht).2.2.1
    have k3 := (zT_k ht).2.2.2.1
    have k4 := (zT_k ht).2.2.2.2
    have r0 := (zT_r0 _ ht).1
    have r1 := (zT_r0 _ ht).2.1
    have r2 := (zT_r0 _ ht).2.2.1
    have r3 := (zT_r0 _ ht).2.2.2
    rw [pg_76_5]
    simp only [en_76, wp_ireturn rk_76, pg_76_0, pg_76_44, pg_76_50, cw_49, wp_iload, wp_aload, wp_istore, wp_astore, wp_iinc, wp_iconst, wp_dup, wp_dup2, wp_pop, wp_iadd, wp_isub, wp_imul, wp_idiv, wp_irem, wp_ineg, wp_iand, wp_ior, wp_ixor, wp_ishl, wp_ishr, wp_getI, wp_putI, wp_getR, wp_goto, wp_goto_w, wq_if_eq, wq_if_ne, wq_if_lt, wq_if_ge, wq_if_gt, wq_if_le, wq_icmp_eq, wq_icmp_ne, wq_icmp_lt, wq_icmp_ge, wq_icmp_gt, wq_icmp_le, wp_max, wp_min, kI_inl, kR_some, kN_inl, kO_some, KT_none, KT_some, List.length_cons, List.length_nil, Nat.reduceAdd, Nat.reduceLT, Nat.reduceLeDiff, Nat.reduceMod, Nat.reduceDiv, true_and, and_true, Int.reduceLE, Int.reduceNeg, Int.reduceLT, Int.cast_ofNat_Int, Nat.zero_le, zI, Int.reduceAdd, Int.reduceSub, Int.reduceMul, not_true_eq_false, not_false_eq_true, false_implies, true_implies, i01_0, i01_1, ite_not, ↓reduceIte, zget_0, zget_1, zget_2, zget_3, zget_4, zget_5, zget_6, zget_7, zget_8, zget_9, zget_10, zset_0, zset_1, zset_2, zset_3, zset_4, zset_5, zset_6, zset_7, zset_8, zset_9, zset_10, k0, r0, r1, r2, r3, wp_iaload k1, wp_iaload k2, wp_iaload k3, wp_iaload k4, wp_iastore k1, wp_iastore k2, wp_iastore k3, wp_iastore k4, c_get ht]
    grind [lp]
  | n + 1, i, s, h0, h1, h2, h3, Q => by
    have k0 := (zT_k ht).1
    have k1 := (zT_k ht).2.1
    have k2 := (zT_k ht).2.2.1
    have k3 := (zT_k ht).2.2.2.1
    have k4 := (zT_k ht).2.2.2.2
    have r0 := (zT_r0 _ ht).1
    have r1 := (zT_r0 _ ht).2.1
    have r2 := (zT_r0 _ ht).2.2.1
    have r3 := (zT_r0 _ ht).2.2.2
    have hbi := (hb dv).1
    have hbj := (hb dv).2 i h0 (by omega)
    have ih := l_unitsOf ht hb n (i + 1)
    rw [pg_76_5]
    simp (disch := omega) only [en_76, wp_ireturn rk_76, pg_76_0, pg_76_44, pg_76_50, cw_49, wp_iload, wp_aload, wp_istore, wp_astore, wp_iinc, wp_iconst, wp_dup, wp_dup2, wp_pop, wp_iadd, wp_isub, wp_imul, wp_idiv, wp_irem, wp_ineg, wp_iand, wp_ior, wp_ixor, wp_ishl, wp_ishr, wp_getI, wp_putI, wp_getR, wp_goto, wp_goto_w, wq_if_eq, wq_if_ne, wq_if_lt, wq_if_ge, wq_if_gt, wq_if_le, wq_icmp_eq, wq_icmp_ne, wq_icmp_lt, wq_icmp_ge, wq_icmp_gt, wq_icmp_le, wp_max, wp_min, kI_inl, kR_some, kN_inl, kO_some, KT_none, KT_some, List.length_cons, List.length_nil, Nat.reduceAdd, Nat.reduceLT, Nat.reduceLeDiff, Nat.reduceMod, Nat.reduceDiv, true_and, and_true, Int.reduceLE, Int.reduceNeg, Int.reduceLT, Int.cast_ofNat_Int, Nat.zero_le, zI, Int.reduceAdd, Int.reduceSub, Int.reduceMul, not_true_eq_false, not_false_eq_true, false_implies, true_implies, i01_0, i01_1, ite_not, ↓reduceIte, zget_0, zget_1, zget_2, zget_3, zget_4, zget_5, zget_6, zget_7, zget_8, zget_9, zget_10, zset_0, zset_1, zset_2, zset_3, zset_4, zset_5, zset_6, zset_7, zset_8, zset_9, zset_10, k0, r0, r1, r2, r3, wp_iaload k1, wp_iaload k2, wp_iaload k3, wp_iaload k4, wp_iastore k1, wp_iastore k2, wp_iastore k3, wp_iastore k4, c_get ht, ih]
    clear ih
    clear k0 k1 k2 k3 k4 r0 r1 r2 r3
    grind (splits := 40) [lp, usf]
theorem c_unitsOf (ht : zT t) (hb : TB (im (t + 1))) : CallP (d + 1) 76 [.inr (some t), .inl dv, .inl kd] im Q ↔ Q (some (.inl (unt (im (t + 1)) dv kd))) im := by
  have k0 := (zT_k ht).1
  have k1 := (zT_k ht).2.1
  have k2 := (zT_k ht).2.2.1
  have k3 := (zT_k ht).2.2.2.1
  have k4 := (zT_k ht).2.2.2.2
  have r0 := (zT_r0 _ ht).1
  have r1 := (zT_r0 _ ht).2.1
  have r2 := (zT_r0 _ ht).2.2.1
  have r3 := (zT_r0 _ ht).2.2.2
  have hl := l_unitsOf (d := d) (dv := dv) (kd := kd) ht hb (gt (im (t + 1)) dv 6).toNat
  simp (disch := omega) only [en_76, wp_ireturn rk_76, pg_76_0, pg_76_44, pg_76_50, cw_49, wp_iload, wp_aload, wp_istore, wp_astore, wp_iinc, wp_iconst, wp_dup, wp_dup2, wp_pop, wp_iadd, wp_isub, wp_imul, wp_idiv, wp_irem, wp_ineg, wp_iand, wp_ior, wp_ixor, wp_ishl, wp_ishr, wp_getI, wp_putI, wp_getR, wp_goto, wp_goto_w, wq_if_eq, wq_if_ne, wq_if_lt, wq_if_ge, wq_if_gt, wq_if_le, wq_icmp_eq, wq_icmp_ne, wq_icmp_lt, wq_icmp_ge, wq_icmp_gt, wq_icmp_le, wp_max, wp_min, kI_inl, kR_some, kN_inl, kO_some, KT_none, KT_some, List.length_cons, List.length_nil, Nat.reduceAdd, Nat.reduceLT, Nat.reduceLeDiff, Nat.reduceMod, Nat.reduceDiv, true_and, and_true, Int.reduceLE, Int.reduceNeg, Int.reduceLT, Int.cast_ofNat_Int, Nat.zero_le, zI, Int.reduceAdd, Int.reduceSub, Int.reduceMul, not_true_eq_false, not_false_eq_true, false_implies, true_implies, i01_0, i01_1, ite_not, ↓reduceIte, zget_0, zget_1, zget_2, zget_3, zget_4, zget_5, zget_6, zget_7, zget_8, zget_9, zget_10, zset_0, zset_1, zset_2, zset_3, zset_4, zset_5, zset_6, zset_7, zset_8, zset_9, zset_10, k0, r0, r1, r2, r3, wp_iaload k1, wp_iaload k2, wp_iaload k3, wp_iaload k4, wp_iastore k1, wp_iastore k2, wp_iastore k3, wp_iastore k4, hl, unt]
/-- who has most -/
def muf (c w : Int → Int) (n k oo : Int) (i : Int) (s : Int × Int) : Int × Int :=
  if gt c (wka w n i) 0 = 1 ∧ (gt c (wka w n i) 3 = 1 ∨ oo = 0) ∧ s.2 < unt c (wka w n i) k then (wka w n i, unt c (wka w n i) k) else s
theorem l_mostUnits (ht : zT t) (hb : TB (im (t + 1))) {oo : Int} (hn : im t 4 ≤ 20) : ∀ (n : Nat) (i : Int) (s : Int × Int) (x1 x2 : zV), 0 ≤ i → i + n = ((im t 4).toNat : Nat) → ∀ Q, wp none (d + 2) 77 (zpg 77 8) [.inr (some t), .inl kd, .inl oo, .inl s.1, .inl s.2, .inl i, x1, x2] [] im Q ↔ Q (some (.inl (lp (muf (im (t + 1)) (im (t + 3)) (im t 4) kd oo) n i s).1)) im
  | 0, i, s, x1, x2, h0, h1, Q => by
    have k0 := (zT_k ht).1
    have k1 := (zT_k ht).2.1
    have k2 := (zT_k ht).2.2.1
    have k3 := (zT_k ht).2.2.2.1
    have k4 := (zT_k ht).2.2.2.2
    have r0 := (zT_r0 _ ht).1
    have r1 := (zT_r0 _ ht).2.1
    have r2 := (zT_r0 _ ht).2.2.1
    have r3 := (zT_r0 _ ht).2.2.2
    rw [pg_77_8]
    simp only [en_77, wp_ireturn rk_77, pg_77_0, pg_77_47, pg_77_70, pg_77_76, cw_52, cw_54, cw_58, cw_76, wp_iload, wp_aload, wp_istore, wp_astore, wp_iinc, wp_iconst, wp_dup, wp_dup2, wp_pop, wp_iadd, wp_isub, wp_imul, wp_idiv, wp_irem, wp_ineg, wp_iand, wp_ior, wp_ixor, wp_ishl, wp_ishr, wp_getI, wp_putI, wp_getR, wp_goto, wp_goto_w, wq_if_eq, wq_if_ne, wq_if_lt, wq_if_ge, wq_if_gt, wq_if_le, wq_icmp_eq, wq_icmp_ne, wq_icmp_lt, wq_icmp_ge, wq_icmp_gt, wq_icmp_le, wp_max, wp_min, kI_inl, kR_some, kN_inl, kO_some, KT_none, KT_some, List.length_cons, List.length_nil, Nat.reduceAdd, Nat.reduceLT, Nat.reduceLeDiff, Nat.reduceMod, Nat.reduceDiv, true_and, and_true, Int.reduceLE, Int.reduceNeg, Int.reduceLT, Int.cast_ofNat_Int, Nat.zero_le, zI, Int.reduceAdd, Int.reduceSub, Int.reduceMul, not_true_eq_false, not_false_eq_true, false_implies, true_implies, i01_0, i01_1, ite_not, ↓reduceIte, zget_0, zget_1, zget_2, zget_3, zget_4, zget_5, zget_6, zget_7, zget_8, zget_9, zget_10, zset_0, zset_1, zset_2, zset_3, zset_4, zset_5, zset_6, zset_7, zset_8, zset_9, zset_10, k0, r0, r1, r2, r3, wp_iaload k1, wp_iaload k2, wp_iaload k3, wp_iaload k4, wp_iastore k1, wp_iastore k2, wp_iastore k3, wp_iastore k4, c_isEndpoint ht, c_isOn ht, c_walkAt ht, c_unitsOf ht hb]
    grind [lp]
  | n + 1, i, s, x1, x2, h0, h1, Q => by
    have k0 := (zT_k ht).1
    have k1 := (zT_k ht).2.1
    have k2 := (zT_k ht).2.2.1
    have k3 := (zT_k ht).2.2.2.1
    have k4 := (zT_k ht).2.2.2.2
    have r0 := (zT_r0 _ ht).1
    have r1 := (zT_r0 _ ht).2.1
    have r2 := (zT_r0 _ ht).2.2.1
    have r3 := (zT_r0 _ ht).2.2.2
    obtain ⟨s1, s2⟩ := s
    have ih := l_mostUnits ht hb (oo := oo) hn n (i + 1)
    have ih1 := fun (s1 s2 : Int) => ih (s1, s2)
    dsimp only at ih1
    rw [pg_77_8]
    simp (disch := omega) only [en_77, wp_ireturn rk_77, pg_77_0, pg_77_47, pg_77_70, pg_77_76, cw_52, cw_54, cw_58, cw_76, wp_iload, wp_aload, wp_istore, wp_astore, wp_iinc, wp_iconst, wp_dup, wp_dup2, wp_pop, wp_iadd, wp_isub, wp_imul, wp_idiv, wp_irem, wp_ineg, wp_iand, wp_ior, wp_ixor, wp_ishl, wp_ishr, wp_getI, wp_putI, wp_getR, wp_goto, wp_goto_w, wq_if_eq, wq_if_ne, wq_if_lt, wq_if_ge, wq_if_gt, wq_if_le, wq_icmp_eq, wq_icmp_ne, wq_icmp_lt, wq_icmp_ge, wq_icmp_gt, wq_icmp_le, wp_max, wp_min, kI_inl, kR_some, kN_inl, kO_some, KT_none, KT_some, List.length_cons, List.length_nil, Nat.reduceAdd, Nat.reduceLT, Nat.reduceLeDiff, Nat.reduceMod, Nat.reduceDiv, true_and, and_true, Int.reduceLE, Int.reduceNeg, Int.reduceLT, Int.cast_ofNat_Int, Nat.zero_le, zI, Int.reduceAdd, Int.reduceSub, Int.reduceMul, not_true_eq_false, not_false_eq_true, false_implies, true_implies, i01_0, i01_1, ite_not, ↓reduceIte, zget_0, zget_1, zget_2, zget_3, zget_4, zget_5, zget_6, zget_7, zget_8, zget_9, zget_10, zset_0, zset_1, zset_2, zset_3, zset_4, zset_5, zset_6, zset_7, zset_8, zset_9, zset_10, k0, r0, r1, r2, r3, wp_iaload k1, wp_iaload k2, wp_iaload k3, wp_iaload k4, wp_iastore k1, wp_iastore k2, wp_iastore k3, wp_iastore k4, c_isEndpoint ht, c_isOn ht, c_walkAt ht, c_unitsOf ht hb, ih1]
    clear ih ih1
    clear k0 k1 k2 k3 k4 r0 r1 r2 r3
    grind (splits := 40) [lp, muf]
theorem c_mostUnits (ht : zT t) (hb : TB (im (t + 1))) {oo : Int} (hn : im t 4 ≤ 20) : CallP (d + 2) 77 [.inr (some t), .inl kd, .inl oo] im Q ↔ Q (some (.inl (lp (muf (im (t + 1)) (im (t + 3)) (im t 4) kd oo) (im t 4).toNat 0 (-1, 0)).1)) im := by
  have k0 := (zT_k ht).1
  have k1 := (zT_k ht).2.1
  have k2 := (zT_k ht).2.2.1
  have k3 := (zT_k ht).2.2.2.1
  have k4 := (zT_k ht).2.2.2.2
  have r0 := (zT_r0 _ ht).1
  have r1 := (zT_r0 _ ht).2.1
  have r2 := (zT_r0 _ ht).2.2.1
  have r3 := (zT_r0 _ ht).2.2.2
  have hl := fun (s1 s2 : Int) => l_mostUnits (d := d) (kd := kd) (oo := oo) ht hb hn (im t 4).toNat 0 (s1, s2)
  dsimp only at hl
  simp (disch := omega) only [en_77, wp_ireturn rk_77, pg_77_0, pg_77_47, pg_77_70, pg_77_76, cw_52, cw_54, cw_58, cw_76, wp_iload, wp_aload, wp_istore, wp_astore, wp_iinc, wp_iconst, wp_dup, wp_dup2, wp_pop, wp_iadd, wp_isub, wp_imul, wp_idiv, wp_irem, wp_ineg, wp_iand, wp_ior, wp_ixor, wp_ishl, wp_ishr, wp_getI, wp_putI, wp_getR, wp_goto, wp_goto_w, wq_if_eq, wq_if_ne, wq_if_lt, wq_if_ge, wq_if_gt, wq_if_le, wq_icmp_eq, wq_icmp_ne, wq_icmp_lt, wq_icmp_ge, wq_icmp_gt, wq_icmp_le, wp_max, wp_min, kI_inl, kR_some, kN_inl, kO_some, KT_none, KT_some, List.length_cons, List.length_nil, Nat.reduceAdd, Nat.reduceLT, Nat.reduceLeDiff, Nat.reduceMod, Nat.reduceDiv, true_and, and_true, Int.reduceLE, Int.reduceNeg, Int.reduceLT, Int.cast_ofNat_Int, Nat.zero_le, zI, Int.reduceAdd, Int.reduceSub, Int.reduceMul, not_true_eq_false, not_false_eq_true, false_implies, true_implies, i01_0, i01_1, ite_not, ↓reduceIte, zget_0, zget_1, zget_2, zget_3, zget_4, zget_5, zget_6, zget_7, zget_8, zget_9, zget_10, zset_0, zset_1, zset_2, zset_3, zset_4, zset_5, zset_6, zset_7, zset_8, zset_9, zset_10, k0, r0, r1, r2, r3, wp_iaload k1, wp_iaload k2, wp_iaload k3, wp_iaload k4, wp_iastore k1, wp_iastore k2, wp_iastore k3, wp_iastore k4, hl]
def mlf (c w : Int → Int) (n : Int) (i : Int) (s : Int × Int) : Int × Int :=
  if gt c (wka w n i) 0 = 2 ∧ gt c (wka w n i) 3 = 1 ∧ s.2 < gt c (wka w n i) 5 then (wka w n i, gt c (wka w n i) 5) else s
theorem l_mostLeft (ht : zT t) (hn : im t 4 ≤ 20) : ∀ (n : Nat) (i : Int) (s : Int × Int) (x1 : zV), 0 ≤ i → i + n = ((im t 4).toNat : Nat) → ∀ Q, wp none (d + 2) 78 (zpg 78 6) [.inr (some t), .inl s.1, .inl s.2, .inl i, x1] [] im Q ↔ Q (some (.inl (lp (mlf (im (t + 1)) (im (t + 3)) (im t 4)) n i s).1)) im
  | 0, i, s, x1, h0, h1, Q => by
    have k0 := (zT_k ht).1
    have k1 := (zT_k ht).2.1
    have k2 := (zT_k ht).2.2.1
    have k3 := (zT_k ht).2.2.2.1
    have k4 := (zT_k ht).2.2.2.2
    have r0 := (zT_r0 _ ht).1
    have r1 := (zT_r0 _ ht).2.1
    have r2 := (zT_r0 _ ht).2.2.1
    have r3 := (zT_r0 _ ht).2.2.2
    rw [pg_78_6]
    simp only [en_78, wp_ireturn rk_78, pg_78_0, pg_78_61, pg_78_67, cw_49, cw_53, cw_54, cw_58, wp_iload, wp_aload, wp_istore, wp_astore, wp_iinc, wp_iconst, wp_dup, wp_dup2, wp_pop, wp_iadd, wp_isub, wp_imul, wp_idiv, wp_irem, wp_ineg, wp_iand, wp_ior, wp_ixor, wp_ishl, wp_ishr, wp_getI, wp_putI, wp_getR, wp_goto, wp_goto_w, wq_if_eq, wq_if_ne, wq_if_lt, wq_if_ge, wq_if_gt, wq_if_le, wq_icmp_eq, wq_icmp_ne, wq_icmp_lt, wq_icmp_ge, wq_icmp_gt, wq_icmp_le, wp_max, wp_min, kI_inl, kR_some, kN_inl, kO_some, KT_none, KT_some, List.length_cons, List.length_nil, Nat.reduceAdd, Nat.reduceLT, Nat.reduceLeDiff, Nat.reduceMod, Nat.reduceDiv, true_and, and_true, Int.reduceLE, Int.reduceNeg, Int.reduceLT, Int.cast_ofNat_Int, Nat.zero_le, zI, Int.reduceAdd, Int.reduceSub, Int.reduceMul, not_true_eq_false, not_false_eq_true, false_implies, true_implies, i01_0, i01_1, ite_not, ↓reduceIte, zget_0, zget_1, zget_2, zget_3, zget_4, zget_5, zget_6, zget_7, zget_8, zget_9, zget_10, zset_0, zset_1, zset_2, zset_3, zset_4, zset_5, zset_6, zset_7, zset_8, zset_9, zset_10, k0, r0, r1, r2, r3, wp_iaload k1, wp_iaload k2, wp_iaload k3, wp_iaload k4, wp_iastore k1, wp_iastore k2, wp_iastore k3, wp_iastore k4, c_isBridge ht, c_isOn ht, c_walkAt ht, c_get ht]
    grind [lp]
  | n + 1, i, s, x1, h0, h1, Q => by
    have k0 := (zT_k ht).1
    have k1 := (zT_k ht).2.1
    have k2 := (zT_k ht).2.2.1
    have k3 := (zT_k ht).2.2.2.1
    have k4 := (zT_k ht).2.2.2.2
    have r0 := (zT_r0 _ ht).1
    have r1 := (zT_r0 _ ht).2.1
    have r2 := (zT_r0 _ ht).2.2.1
    have r3 := (zT_r0 _ ht).2.2.2
    obtain ⟨s1, s2⟩ := s
    have ih := l_mostLeft ht hn n (i + 1)
    have ih1 := fun (s1 s2 : Int) => ih (s1, s2)
    dsimp only at ih1
    rw [pg_78_6]
    simp (disch := omega) only [en_78, wp_ireturn rk_78, pg_78_0, pg_78_61, pg_78_67, cw_49, cw_53, cw_54, cw_58, wp_iload, wp_aload, wp_istore, wp_astore, wp_iinc, wp_iconst, wp_dup, wp_dup2, wp_pop, wp_iadd, wp_isub, wp_imul, wp_idiv, wp_irem, wp_ineg, wp_iand, wp_ior, wp_ixor, wp_ishl, wp_ishr, wp_getI, wp_putI, wp_getR, wp_goto, wp_goto_w, wq_if_eq, wq_if_ne, wq_if_lt, wq_if_ge, wq_if_gt, wq_if_le, wq_icmp_eq, wq_icmp_ne, wq_icmp_lt, wq_icmp_ge, wq_icmp_gt, wq_icmp_le, wp_max, wp_min, kI_inl, kR_some, kN_inl, kO_some, KT_none, KT_some, List.length_cons, List.length_nil, Nat.reduceAdd, Nat.reduceLT, Nat.reduceLeDiff, Nat.reduceMod, Nat.reduceDiv, true_and, and_true, Int.reduceLE, Int.reduceNeg, Int.reduceLT, Int.cast_ofNat_Int, Nat.zero_le, zI, Int.reduceAdd, Int.reduceSub, Int.reduceMul, not_true_eq_false, not_false_eq_true, false_implies, true_implies, i01_0, i01_1, ite_not, ↓reduceIte, zget_0, zget_1, zget_2, zget_3, zget_4, zget_5, zget_6, zget_7, zget_8, zget_9, zget_10, zset_0, zset_1, zset_2, zset_3, zset_4, zset_5, zset_6, zset_7, zset_8, zset_9, zset_10, k0, r0, r1, r2, r3, wp_iaload k1, wp_iaload k2, wp_iaload k3, wp_iaload k4, wp_iastore k1, wp_iastore k2, wp_iastore k3, wp_iastore k4, c_isBridge ht, c_isOn ht, c_walkAt ht, c_get ht, ih1]
    clear ih ih1
    clear k0 k1 k2 k3 k4 r0 r1 r2 r3
    grind (splits := 40) [lp, mlf]
theorem c_mostLeft (ht : zT t) (hn : im t 4 ≤ 20) : CallP (d + 2) 78 [.inr (some t)] im Q ↔ Q (some (.inl (lp (mlf (im (t + 1)) (im (t + 3)) (im t 4)) (im t 4).toNat 0 (-1, -1)).1)) im := by
  have k0 := (zT_k ht).1
  have k1 := (zT_k ht).2.1
  have k2 := (zT_k ht).2.2.1
  have k3 := (zT_k ht).2.2.2.1
  have k4 := (zT_k ht).2.2.2.2
  have r0 := (zT_r0 _ ht).1
  have r1 := (zT_r0 _ ht).2.1
  have r2 := (zT_r0 _ ht).2.2.1
  have r3 := (zT_r0 _ ht).2.2.2
  have hl := fun (s1 s2 : Int) => l_mostLeft (d := d) ht hn (im t 4).toNat 0 (s1, s2)
  dsimp only at hl
  simp (disch := omega) only [en_78, wp_ireturn rk_78, pg_78_0, pg_78_61, pg_78_67, cw_49, cw_53, cw_54, cw_58, wp_iload, wp_aload, wp_istore, wp_astore, wp_iinc, wp_iconst, wp_dup, wp_dup2, wp_pop, wp_iadd, wp_isub, wp_imul, wp_idiv, wp_irem, wp_ineg, wp_iand, wp_ior, wp_ixor, wp_ishl, wp_ishr, wp_getI, wp_putI, wp_getR, wp_goto, wp_goto_w, wq_if_eq, wq_if_ne, wq_if_lt, wq_if_ge, wq_if_gt, wq_if_le, wq_icmp_eq, wq_icmp_ne, wq_icmp_lt, wq_icmp_ge, wq_icmp_gt, wq_icmp_le, wp_max, wp_min, kI_inl, kR_some, kN_inl, kO_some, KT_none, KT_some, List.length_cons, List.length_nil, Nat.reduceAdd, Nat.reduceLT, Nat.reduceLeDiff, Nat.reduceMod, Nat.reduceDiv, true_and, and_true, Int.reduceLE, Int.reduceNeg, Int.reduceLT, Int.cast_ofNat_Int, Nat.zero_le, zI, Int.reduceAdd, Int.reduceSub, Int.reduceMul, not_true_eq_false, not_false_eq_true, false_implies, true_implies, i01_0, i01_1, ite_not, ↓reduceIte, zget_0, zget_1, zget_2, zget_3, zget_4, zget_5, zget_6, zget_7, zget_8, zget_9, zget_10, zset_0, zset_1, zset_2, zset_3, zset_4, zset_5, zset_6, zset_7, zset_8, zset_9, zset_10, k0, r0, r1, r2, r3, wp_iaload k1, wp_iaload k2, wp_iaload k3, wp_iaload k4, wp_iastore k1, wp_iastore k2, wp_iastore k3, wp_iastore k4, hl]
/-- another row in one object -/
def setc (im : zM) (o : Nat) (c : Int → Int) : zM := fun p => if p = o then c else im p
def ups (c : Int → Int) (i v : Int) : Int → Int := fun j => if j = i then v else c j
theorem zu_setc (im : zM) (o : Nat) (i v : Int) : zu im o i v = setc im o (ups (im o) i v) := rfl
theorem setc_at (im : zM) (o : Nat) (c : Int → Int) : setc im o c o = c := if_pos rfl
theorem setc_ne (im : zM) {o p : Nat} (c : Int → Int) (h : p ≠ o) : setc im o c p = im p := if_neg h
theorem setc_setc (im : zM) (o : Nat) (c e : Int → Int) : setc (setc im o c) o e = setc im o e := by
  funext p
  unfold setc
  split <;> rfl
theorem setc_self (im : zM) (o : Nat) : setc im o (im o) = im := by
  funext p
  unfold setc
  split
  · rename_i h; rw [h]
  · rfl
/-- what was given to a device is taken from it -/
def clrf (c : Int → Int) (e : Int) : Int → Int := fun j => if j = e * 24 + 7 ∨ j = e * 24 + 8 ∨ (e * 24 + 15 ≤ j ∧ j ≤ e * 24 + 19) then -1 else if j = e * 24 + 20 ∨ j = e * 24 + 21 then 0 else c j
set_option maxRecDepth 2000 in
theorem c_clearGiven (ht : zT t) (hd : 0 ≤ dv ∧ dv < 20) : CallP (d + 1) 75 [.inr (some t), .inl dv] im Q ↔ Q none (setc im (t + 1) (clrf (im (t + 1)) dv)) := by
  have k0 := (zT_k ht).1
  have k1 := (zT_k ht).2.1
  have k2 := (zT_k ht).2.2.1
  have k3 := (zT_k ht).2.2.2.1
  have k4 := (zT_k ht).2.2.2.2
  have r0 := (zT_r0 _ ht).1
  have r1 := (zT_r0 _ ht).2.1
  have r2 := (zT_r0 _ ht).2.2.1
  have r3 := (zT_r0 _ ht).2.2.2
  simp only [en_75, wp_return rk_75, pg_75_0, pg_75_39, pg_75_72, cw_50, wp_iload, wp_aload, wp_istore, wp_astore, wp_iinc, wp_iconst, wp_dup, wp_dup2, wp_pop, wp_iadd, wp_isub, wp_imul, wp_idiv, wp_irem, wp_ineg, wp_iand, wp_ior, wp_ixor, wp_ishl, wp_ishr, wp_getI, wp_putI, wp_getR, wp_goto, wp_goto_w, wq_if_eq, wq_if_ne, wq_if_lt, wq_if_ge, wq_if_gt, wq_if_le, wq_icmp_eq, wq_icmp_ne, wq_icmp_lt, wq_icmp_ge, wq_icmp_gt, wq_icmp_le, wp_max, wp_min, kI_inl, kR_some, kN_inl, kO_some, KT_none, KT_some, List.length_cons, List.length_nil, Nat.reduceAdd, Nat.reduceLT, Nat.reduceLeDiff, Nat.reduceMod, Nat.reduceDiv, true_and, and_true, Int.reduceLE, Int.reduceNeg, Int.reduceLT, Int.cast_ofNat_Int, Nat.zero_le, zI, Int.reduceAdd, Int.reduceSub, Int.reduceMul, not_true_eq_false, not_false_eq_true, false_implies, true_implies, i01_0, i01_1, ite_not, ↓reduceIte, zget_0, zget_1, zget_2, zget_3, zget_4, zget_5, zget_6, zget_7, zget_8, zget_9, zget_10, zset_0, zset_1, zset_2, zset_3, zset_4, zset_5, zset_6, zset_7, zset_8, zset_9, zset_10, k0, r0, r1, r2, r3, wp_iaload k1, wp_iaload k2, wp_iaload k3, wp_iaload k4, wp_iastore k1, wp_iastore k2, wp_iastore k3, wp_iastore k4, c_set ht, pg_75_18, pg_75_41, hd.1, hd.2, zu_setc, setc_at, setc_setc]
  refine iff_of_eq (congrArg (fun c => Q none (setc im (t + 1) c)) ?_)
  funext j
  simp only [ups, clrf]
  grind
theorem clrf_ne {c : Int → Int} {e j : Int} (h : ¬ (e * 24 + 7 ≤ j ∧ j ≤ e * 24 + 21)) : clrf c e j = c j := by
  unfold clrf
  grind
/-- all are OFF -/
def offf (e : Int) (c : Int → Int) : Int → Int := clrf (ups c (e * 24 + 3) 0) e
theorem l_turnAllOff (ht : zT t) : ∀ (n : Nat) (i : Int) (im : zM), 0 ≤ i → i + n = 20 → ∀ Q, wp none (d + 2) 74 (zpg 74 2) [.inr (some t), .inl i] [] im Q ↔ Q none (setc im (t + 1) (lp offf n i (im (t + 1))))
  | 0, i, im, h0, h1, Q => by
    have k0 := (zT_k ht).1
    have k1 := (zT_k ht).2.1
    have k2 := (zT_k ht).2.2.1
    have k3 := (zT_k ht).2.2.2.1
    have k4 := (zT_k ht).2.2.2.2
    have r0 := (zT_r0 _ ht).1
    have r1 := (zT_r0 _ ht).2.1
    have r2 := (zT_r0 _ ht).2.2.1
    have r3 := (zT_r0 _ ht).2.2.2
    rw [pg_74_2]
    simp (disch := omega) only [en_74, wp_return rk_74, pg_74_0, pg_74_26, cw_50, cw_75, wp_iload, wp_aload, wp_istore, wp_astore, wp_iinc, wp_iconst, wp_dup, wp_dup2, wp_pop, wp_iadd, wp_isub, wp_imul, wp_idiv, wp_irem, wp_ineg, wp_iand, wp_ior, wp_ixor, wp_ishl, wp_ishr, wp_getI, wp_putI, wp_getR, wp_goto, wp_goto_w, wq_if_eq, wq_if_ne, wq_if_lt, wq_if_ge, wq_if_gt, wq_if_le, wq_icmp_eq, wq_icmp_ne, wq_icmp_lt, wq_icmp_ge, wq_icmp_gt, wq_icmp_le, wp_max, wp_min, kI_inl, kR_some, kN_inl, kO_some, KT_none, KT_some, List.length_cons, List.length_nil, Nat.reduceAdd, Nat.reduceLT, Nat.reduceLeDiff, Nat.reduceMod, Nat.reduceDiv, true_and, and_true, Int.reduceLE, Int.reduceNeg, Int.reduceLT, Int.cast_ofNat_Int, Nat.zero_le, zI, Int.reduceAdd, Int.reduceSub, Int.reduceMul, not_true_eq_false, not_false_eq_true, false_implies, true_implies, i01_0, i01_1, ite_not, ↓reduceIte, zget_0, zget_1, zget_2, zget_3, zget_4, zget_5, zget_6, zget_7, zget_8, zget_9, zget_10, zset_0, zset_1, zset_2, zset_3, zset_4, zset_5, zset_6, zset_7, zset_8, zset_9, zset_10, k0, r0, r1, r2, r3, wp_iaload k1, wp_iaload k2, wp_iaload k3, wp_iaload k4, wp_iastore k1, wp_iastore k2, wp_iastore k3, wp_iastore k4, show (20 : Int) ≤ i by omega, lp, setc_self]
  | n + 1, i, im, h0, h1, Q => by
    have k0 := (zT_k ht).1
    have k1 := (zT_k ht).2.1
    have k2 := (zT_k ht).2.2.1
    have k3 := (zT_k ht).2.2.2.1
    have k4 := (zT_k ht).2.2.2.2
    have r0 := (zT_r0 _ ht).1
    have r1 := (zT_r0 _ ht).2.1
    have r2 := (zT_r0 _ ht).2.2.1
    have r3 := (zT_r0 _ ht).2.2.2
    have ih := l_turnAllOff ht n (i + 1)
    rw [pg_74_2]
    simp (disch := omega) only [en_74, wp_return rk_74, pg_74_0, pg_74_26, cw_50, cw_75, wp_iload, wp_aload, wp_istore, wp_astore, wp_iinc, wp_iconst, wp_dup, wp_dup2, wp_pop, wp_iadd, wp_isub, wp_imul, wp_idiv, wp_irem, wp_ineg, wp_iand, wp_ior, wp_ixor, wp_ishl, wp_ishr, wp_getI, wp_putI, wp_getR, wp_goto, wp_goto_w, wq_if_eq, wq_if_ne, wq_if_lt, wq_if_ge, wq_if_gt, wq_if_le, wq_icmp_eq, wq_icmp_ne, wq_icmp_lt, wq_icmp_ge, wq_icmp_gt, wq_icmp_le, wp_max, wp_min, kI_inl, kR_some, kN_inl, kO_some, KT_none, KT_some, List.length_cons, List.length_nil, Nat.reduceAdd, Nat.reduceLT, Nat.reduceLeDiff, Nat.reduceMod, Nat.reduceDiv, true_and, and_true, Int.reduceLE, Int.reduceNeg, Int.reduceLT, Int.cast_ofNat_Int, Nat.zero_le, zI, Int.reduceAdd, Int.reduceSub, Int.reduceMul, not_true_eq_false, not_false_eq_true, false_implies, true_implies, i01_0, i01_1, ite_not, ↓reduceIte, zget_0, zget_1, zget_2, zget_3, zget_4, zget_5, zget_6, zget_7, zget_8, zget_9, zget_10, zset_0, zset_1, zset_2, zset_3, zset_4, zset_5, zset_6, zset_7, zset_8, zset_9, zset_10, k0, r0, r1, r2, r3, wp_iaload k1, wp_iaload k2, wp_iaload k3, wp_iaload k4, wp_iastore k1, wp_iastore k2, wp_iastore k3, wp_iastore k4, show ¬ (20 : Int) ≤ i by omega, h0, show i < 20 by omega, c_set ht, c_clearGiven ht, zu_setc, setc_at, setc_setc, ih, lp, offf]
    grind
theorem c_turnAllOff (ht : zT t) : CallP (d + 2) 74 [.inr (some t)] im Q ↔ Q none (setc im (t + 1) (lp offf 20 0 (im (t + 1)))) := by
  have k0 := (zT_k ht).1
  have k1 := (zT_k ht).2.1
  have k2 := (zT_k ht).2.2.1
  have k3 := (zT_k ht).2.2.2.1
  have k4 := (zT_k ht).2.2.2.2
  have r0 := (zT_r0 _ ht).1
  have r1 := (zT_r0 _ ht).2.1
  have r2 := (zT_r0 _ ht).2.2.1
  have r3 := (zT_r0 _ ht).2.2.2
  simp (disch := omega) only [en_74, wp_return rk_74, pg_74_0, pg_74_26, cw_50, cw_75, wp_iload, wp_aload, wp_istore, wp_astore, wp_iinc, wp_iconst, wp_dup, wp_dup2, wp_pop, wp_iadd, wp_isub, wp_imul, wp_idiv, wp_irem, wp_ineg, wp_iand, wp_ior, wp_ixor, wp_ishl, wp_ishr, wp_getI, wp_putI, wp_getR, wp_goto, wp_goto_w, wq_if_eq, wq_if_ne, wq_if_lt, wq_if_ge, wq_if_gt, wq_if_le, wq_icmp_eq, wq_icmp_ne, wq_icmp_lt, wq_icmp_ge, wq_icmp_gt, wq_icmp_le, wp_max, wp_min, kI_inl, kR_some, kN_inl, kO_some, KT_none, KT_some, List.length_cons, List.length_nil, Nat.reduceAdd, Nat.reduceLT, Nat.reduceLeDiff, Nat.reduceMod, Nat.reduceDiv, true_and, and_true, Int.reduceLE, Int.reduceNeg, Int.reduceLT, Int.cast_ofNat_Int, Nat.zero_le, zI, Int.reduceAdd, Int.reduceSub, Int.reduceMul, not_true_eq_false, not_false_eq_true, false_implies, true_implies, i01_0, i01_1, ite_not, ↓reduceIte, zget_0, zget_1, zget_2, zget_3, zget_4, zget_5, zget_6, zget_7, zget_8, zget_9, zget_10, zset_0, zset_1, zset_2, zset_3, zset_4, zset_5, zset_6, zset_7, zset_8, zset_9, zset_10, k0, r0, r1, r2, r3, wp_iaload k1, wp_iaload k2, wp_iaload k3, wp_iaload k4, wp_iastore k1, wp_iastore k2, wp_iastore k3, wp_iastore k4, l_turnAllOff ht 20]
end TU
