/-! THE CLASS'S TREE: scans over the devices -/
/-- the first from i on, of n, with p; -1: none -/
def ff (p : Int → Bool) : Nat → Int → Int
  | 0, _ => -1
  | n + 1, i => if p i then i else ff p n (i + 1)
/-- a loop that counts up -/
def lp {S : Type} (f : Int → S → S) : Nat → Int → S → S
  | 0, _, s => s
  | n + 1, i, s => lp f n (i + 1) (f i s)
section TS
variable {d t : Nat} {im : zM} {Q : Option zV → zM → Prop} {a b v : Int}
def plgB (c : Int → Int) (a sl : Int) (e : Int) : Bool := decide (0 < gt c e 0 ∧ gt c e 1 = a ∧ gt c e 2 = sl)
theorem l_plugged (ht : zT t) : ∀ (n : Nat) (i : Int), 0 ≤ i → i + n = 20 → ∀ Q, wp none (d + 2) 64 (zpg 64 2) [.inr (some t), .inl a, .inl b, .inl i] [] im Q ↔ Q (some (.inl (ff (plgB (im (t + 1)) a b) n i))) im
  | 0, i, h0, h1, Q => by
    have k0 := (zT_k ht).1
    have k1 := (zT_k ht).2.1
    have k2 := (zT_k ht).2.2.1
    have k3 := (zT_k ht).2.2.2.1
    have k4 := (zT_k ht).2.2.2.2
    have r0 := (zT_r0 _ ht).1
    have r1 := (zT_r0 _ ht).2.1
    have r2 := (zT_r0 _ ht).2.2.1
    have r3 := (zT_r0 _ ht).2.2.2
    rw [pg_64_2]
    simp only [en_64, wp_ireturn rk_64, pg_64_0, pg_64_38, pg_64_44, cw_49, cw_51, wp_iload, wp_aload, wp_istore, wp_astore, wp_iinc, wp_iconst, wp_dup, wp_dup2, wp_pop, wp_iadd, wp_isub, wp_imul, wp_idiv, wp_irem, wp_ineg, wp_iand, wp_ior, wp_ixor, wp_ishl, wp_ishr, wp_getI, wp_putI, wp_getR, wp_goto, wp_goto_w, wq_if_eq, wq_if_ne, wq_if_lt, wq_if_ge, wq_if_gt, wq_if_le, wq_icmp_eq, wq_icmp_ne, wq_icmp_lt, wq_icmp_ge, wq_icmp_gt, wq_icmp_le, wp_max, wp_min, kI_inl, kR_some, kN_inl, kO_some, KT_none, KT_some, List.length_cons, List.length_nil, Nat.reduceAdd, Nat.reduceLT, Nat.reduceLeDiff, Nat.reduceMod, Nat.reduceDiv, true_and, and_true, Int.reduceLE, Int.reduceNeg, Int.reduceLT, Int.cast_ofNat_Int, Nat.zero_le, zI, Int.reduceAdd, Int.reduceSub, Int.reduceMul, not_true_eq_false, not_false_eq_true, false_implies, true_implies, i01_0, i01_1, ite_not, ↓reduceIte, zget_0, zget_1, zget_2, zget_3, zget_4, zget_5, zget_6, zget_7, zget_8, zget_9, zget_10, zset_0, zset_1, zset_2, zset_3, zset_4, zset_5, zset_6, zset_7, zset_8, zset_9, zset_10, k0, r0, r1, r2, r3, wp_iaload k1, wp_iaload k2, wp_iaload k3, wp_iaload k4, wp_iastore k1, wp_iastore k2, wp_iastore k3, wp_iastore k4, c_isThere ht, c_get ht]
    grind [ff]
  | n + 1, i, h0, h1, Q => by
    have k0 := (zT_k ht).1
    have k1 := (zT_k ht).2.1
    have k2 := (zT_k ht).2.2.1
    have k3 := (zT_k ht).2.2.2.1
    have k4 := (zT_k ht).2.2.2.2
    have r0 := (zT_r0 _ ht).1
    have r1 := (zT_r0 _ ht).2.1
    have r2 := (zT_r0 _ ht).2.2.1
    have r3 := (zT_r0 _ ht).2.2.2
    have ih := l_plugged ht n (i + 1) (by omega) (by omega)
    rw [pg_64_2]
    simp only [en_64, wp_ireturn rk_64, pg_64_0, pg_64_38, pg_64_44, cw_49, cw_51, wp_iload, wp_aload, wp_istore, wp_astore, wp_iinc, wp_iconst, wp_dup, wp_dup2, wp_pop, wp_iadd, wp_isub, wp_imul, wp_idiv, wp_irem, wp_ineg, wp_iand, wp_ior, wp_ixor, wp_ishl, wp_ishr, wp_getI, wp_putI, wp_getR, wp_goto, wp_goto_w, wq_if_eq, wq_if_ne, wq_if_lt, wq_if_ge, wq_if_gt, wq_if_le, wq_icmp_eq, wq_icmp_ne, wq_icmp_lt, wq_icmp_ge, wq_icmp_gt, wq_icmp_le, wp_max, wp_min, kI_inl, kR_some, kN_inl, kO_some, KT_none, KT_some, List.length_cons, List.length_nil, Nat.reduceAdd, Nat.reduceLT, Nat.reduceLeDiff, Nat.reduceMod, Nat.reduceDiv, true_and, and_true, Int.reduceLE, Int.reduceNeg, Int.reduceLT, Int.cast_ofNat_Int, Nat.zero_le, zI, Int.reduceAdd, Int.reduceSub, Int.reduceMul, not_true_eq_false, not_false_eq_true, false_implies, true_implies, i01_0, i01_1, ite_not, ↓reduceIte, zget_0, zget_1, zget_2, zget_3, zget_4, zget_5, zget_6, zget_7, zget_8, zget_9, zget_10, zset_0, zset_1, zset_2, zset_3, zset_4, zset_5, zset_6, zset_7, zset_8, zset_9, zset_10, k0, r0, r1, r2, r3, wp_iaload k1, wp_iaload k2, wp_iaload k3, wp_iaload k4, wp_iastore k1, wp_iastore k2, wp_iastore k3, wp_iastore k4, c_isThere ht, c_get ht, ih]
    grind [ff, plgB]
theorem c_plugged (ht : zT t) : CallP (d + 2) 64 [.inr (some t), .inl a, .inl b] im Q ↔ Q (some (.inl (ff (plgB (im (t + 1)) a b) 20 0))) im := by
  have k0 := (zT_k ht).1
  have k1 := (zT_k ht).2.1
  have k2 := (zT_k ht).2.2.1
  have k3 := (zT_k ht).2.2.2.1
  have k4 := (zT_k ht).2.2.2.2
  have r0 := (zT_r0 _ ht).1
  have r1 := (zT_r0 _ ht).2.1
  have r2 := (zT_r0 _ ht).2.2.1
  have r3 := (zT_r0 _ ht).2.2.2
  simp only [en_64, wp_ireturn rk_64, pg_64_0, pg_64_38, pg_64_44, cw_49, cw_51, wp_iload, wp_aload, wp_istore, wp_astore, wp_iinc, wp_iconst, wp_dup, wp_dup2, wp_pop, wp_iadd, wp_isub, wp_imul, wp_idiv, wp_irem, wp_ineg, wp_iand, wp_ior, wp_ixor, wp_ishl, wp_ishr, wp_getI, wp_putI, wp_getR, wp_goto, wp_goto_w, wq_if_eq, wq_if_ne, wq_if_lt, wq_if_ge, wq_if_gt, wq_if_le, wq_icmp_eq, wq_icmp_ne, wq_icmp_lt, wq_icmp_ge, wq_icmp_gt, wq_icmp_le, wp_max, wp_min, kI_inl, kR_some, kN_inl, kO_some, KT_none, KT_some, List.length_cons, List.length_nil, Nat.reduceAdd, Nat.reduceLT, Nat.reduceLeDiff, Nat.reduceMod, Nat.reduceDiv, true_and, and_true, Int.reduceLE, Int.reduceNeg, Int.reduceLT, Int.cast_ofNat_Int, Nat.zero_le, zI, Int.reduceAdd, Int.reduceSub, Int.reduceMul, not_true_eq_false, not_false_eq_true, false_implies, true_implies, i01_0, i01_1, ite_not, ↓reduceIte, zget_0, zget_1, zget_2, zget_3, zget_4, zget_5, zget_6, zget_7, zget_8, zget_9, zget_10, zset_0, zset_1, zset_2, zset_3, zset_4, zset_5, zset_6, zset_7, zset_8, zset_9, zset_10, k0, r0, r1, r2, r3, wp_iaload k1, wp_iaload k2, wp_iaload k3, wp_iaload k4, wp_iastore k1, wp_iastore k2, wp_iastore k3, wp_iastore k4, l_plugged ht 20 0 (by omega) (by omega)]
def vacB (c : Int → Int) (e : Int) : Bool := decide (¬ 0 < gt c e 0)
theorem l_lowestVacant (ht : zT t) : ∀ (n : Nat) (i : Int), 0 ≤ i → i + n = 20 → ∀ Q, wp none (d + 2) 65 (zpg 65 2) [.inr (some t), .inl i] [] im Q ↔ Q (some (.inl (ff (vacB (im (t + 1))) n i))) im
  | 0, i, h0, h1, Q => by
    have k0 := (zT_k ht).1
    have k1 := (zT_k ht).2.1
    have k2 := (zT_k ht).2.2.1
    have k3 := (zT_k ht).2.2.2.1
    have k4 := (zT_k ht).2.2.2.2
    have r0 := (zT_r0 _ ht).1
    have r1 := (zT_r0 _ ht).2.1
    have r2 := (zT_r0 _ ht).2.2.1
    have r3 := (zT_r0 _ ht).2.2.2
    rw [pg_65_2]
    simp only [en_65, wp_ireturn rk_65, pg_65_0, pg_65_18, pg_65_24, cw_51, wp_iload, wp_aload, wp_istore, wp_astore, wp_iinc, wp_iconst, wp_dup, wp_dup2, wp_pop, wp_iadd, wp_isub, wp_imul, wp_idiv, wp_irem, wp_ineg, wp_iand, wp_ior, wp_ixor, wp_ishl, wp_ishr, wp_getI, wp_putI, wp_getR, wp_goto, wp_goto_w, wq_if_eq, wq_if_ne, wq_if_lt, wq_if_ge, wq_if_gt, wq_if_le, wq_icmp_eq, wq_icmp_ne, wq_icmp_lt, wq_icmp_ge, wq_icmp_gt, wq_icmp_le, wp_max, wp_min, kI_inl, kR_some, kN_inl, kO_some, KT_none, KT_some, List.length_cons, List.length_nil, Nat.reduceAdd, Nat.reduceLT, Nat.reduceLeDiff, Nat.reduceMod, Nat.reduceDiv, true_and, and_true, Int.reduceLE, Int.reduceNeg, Int.reduceLT, Int.cast_ofNat_Int, Nat.zero_le, zI, Int.reduceAdd, Int.reduceSub, Int.reduceMul, not_true_eq_false, not_false_eq_true, false_implies, true_implies, i01_0, i01_1, ite_not, ↓reduceIte, zget_0, zget_1, zget_2, zget_3, zget_4, zget_5, zget_6, zget_7, zget_8, zget_9, zget_10, zset_0, zset_1, zset_2, zset_3, zset_4, zset_5, zset_6, zset_7, zset_8, zset_9, zset_10, k0, r0, r1, r2, r3, wp_iaload k1, wp_iaload k2, wp_iaload k3, wp_iaload k4, wp_iastore k1, wp_iastore k2, wp_iastore k3, wp_iastore k4, c_isThere ht, c_get ht]
    grind [ff]
  | n + 1, i, h0, h1, Q => by
    have k0 := (zT_k ht).1
    have k1 := (zT_k ht).2.1
    have k2 := (zT_k ht).2.2.1
    have k3 := (zT_k ht).2.2.2.1
    have k4 := (zT_k ht).2.2.2.2
    have r0 := (zT_r0 _ ht).1
    have r1 := (zT_r0 _ ht).2.1
    have r2 := (zT_r0 _ ht).2.2.1
    have r3 := (zT_r0 _ ht).2.2.2
    have ih := l_lowestVacant ht n (i + 1) (by omega) (by omega)
    rw [pg_65_2]
    simp only [en_65, wp_ireturn rk_65, pg_65_0, pg_65_18, pg_65_24, cw_51, wp_iload, wp_aload, wp_istore, wp_astore, wp_iinc, wp_iconst, wp_dup, wp_dup2, wp_pop, wp_iadd, wp_isub, wp_imul, wp_idiv, wp_irem, wp_ineg, wp_iand, wp_ior, wp_ixor, wp_ishl, wp_ishr, wp_getI, wp_putI, wp_getR, wp_goto, wp_goto_w, wq_if_eq, wq_if_ne, wq_if_lt, wq_if_ge, wq_if_gt, wq_if_le, wq_icmp_eq, wq_icmp_ne, wq_icmp_lt, wq_icmp_ge, wq_icmp_gt, wq_icmp_le, wp_max, wp_min, kI_inl, kR_some, kN_inl, kO_some, KT_none, KT_some, List.length_cons, List.length_nil, Nat.reduceAdd, Nat.reduceLT, Nat.reduceLeDiff, Nat.reduceMod, Nat.reduceDiv, true_and, and_true, Int.reduceLE, Int.reduceNeg, Int.reduceLT, Int.cast_ofNat_Int, Nat.zero_le, zI, Int.reduceAdd, Int.reduceSub, Int.reduceMul, not_true_eq_false, not_false_eq_true, false_implies, true_implies, i01_0, i01_1, ite_not, ↓reduceIte, zget_0, zget_1, zget_2, zget_3, zget_4, zget_5, zget_6, zget_7, zget_8, zget_9, zget_10, zset_0, zset_1, zset_2, zset_3, zset_4, zset_5, zset_6, zset_7, zset_8, zset_9, zset_10, k0, r0, r1, r2, r3, wp_iaload k1, wp_iaload k2, wp_iaload k3, wp_iaload k4, wp_iastore k1, wp_iastore k2, wp_iastore k3, wp_iastore k4, c_isThere ht, c_get ht, ih]
    grind [ff, vacB]
theorem c_lowestVacant (ht : zT t) : CallP (d + 2) 65 [.inr (some t)] im Q ↔ Q (some (.inl (ff (vacB (im (t + 1))) 20 0))) im := by
  have k0 := (zT_k ht).1
  have k1 := (zT_k ht).2.1
  have k2 := (zT_k ht).2.2.1
  have k3 := (zT_k ht).2.2.2.1
  have k4 := (zT_k ht).2.2.2.2
  have r0 := (zT_r0 _ ht).1
  have r1 := (zT_r0 _ ht).2.1
  have r2 := (zT_r0 _ ht).2.2.1
  have r3 := (zT_r0 _ ht).2.2.2
  simp only [en_65, wp_ireturn rk_65, pg_65_0, pg_65_18, pg_65_24, cw_51, wp_iload, wp_aload, wp_istore, wp_astore, wp_iinc, wp_iconst, wp_dup, wp_dup2, wp_pop, wp_iadd, wp_isub, wp_imul, wp_idiv, wp_irem, wp_ineg, wp_iand, wp_ior, wp_ixor, wp_ishl, wp_ishr, wp_getI, wp_putI, wp_getR, wp_goto, wp_goto_w, wq_if_eq, wq_if_ne, wq_if_lt, wq_if_ge, wq_if_gt, wq_if_le, wq_icmp_eq, wq_icmp_ne, wq_icmp_lt, wq_icmp_ge, wq_icmp_gt, wq_icmp_le, wp_max, wp_min, kI_inl, kR_some, kN_inl, kO_some, KT_none, KT_some, List.length_cons, List.length_nil, Nat.reduceAdd, Nat.reduceLT, Nat.reduceLeDiff, Nat.reduceMod, Nat.reduceDiv, true_and, and_true, Int.reduceLE, Int.reduceNeg, Int.reduceLT, Int.cast_ofNat_Int, Nat.zero_le, zI, Int.reduceAdd, Int.reduceSub, Int.reduceMul, not_true_eq_false, not_false_eq_true, false_implies, true_implies, i01_0, i01_1, ite_not, ↓reduceIte, zget_0, zget_1, zget_2, zget_3, zget_4, zget_5, zget_6, zget_7, zget_8, zget_9, zget_10, zset_0, zset_1, zset_2, zset_3, zset_4, zset_5, zset_6, zset_7, zset_8, zset_9, zset_10, k0, r0, r1, r2, r3, wp_iaload k1, wp_iaload k2, wp_iaload k3, wp_iaload k4, wp_iastore k1, wp_iastore k2, wp_iastore k3, wp_iastore k4, l_lowestVacant ht 20 0 (by omega) (by omega)]
/-- counting -/
def cntf (p : Int → Bool) (i s : Int) : Int := if p i then s + 1 else s
def onB (c : Int → Int) (e : Int) : Bool := decide (gt c e 3 = 1)
theorem l_countOn (ht : zT t) : ∀ (n : Nat) (i s : Int), 0 ≤ i → i + n = 20 → 0 ≤ s → s ≤ i → ∀ Q, wp none (d + 2) 80 (zpg 80 4) [.inr (some t), .inl s, .inl i] [] im Q ↔ Q (some (.inl (lp (cntf (onB (im (t + 1)))) n i s))) im
  | 0, i, s, h0, h1, h2, h3, Q => by
    have k0 := (zT_k ht).1
    have k1 := (zT_k ht).2.1
    have k2 := (zT_k ht).2.2.1
    have k3 := (zT_k ht).2.2.2.1
    have k4 := (zT_k ht).2.2.2.2
    have r0 := (zT_r0 _ ht).1
    have r1 := (zT_r0 _ ht).2.1
    have r2 := (zT_r0 _ ht).2.2.1
    have r3 := (zT_r0 _ ht).2.2.2
    rw [pg_80_4]
    simp only [en_80, wp_ireturn rk_80, pg_80_0, pg_80_21, pg_80_27, cw_54, wp_iload, wp_aload, wp_istore, wp_astore, wp_iinc, wp_iconst, wp_dup, wp_dup2, wp_pop, wp_iadd, wp_isub, wp_imul, wp_idiv, wp_irem, wp_ineg, wp_iand, wp_ior, wp_ixor, wp_ishl, wp_ishr, wp_getI, wp_putI, wp_getR, wp_goto, wp_goto_w, wq_if_eq, wq_if_ne, wq_if_lt, wq_if_ge, wq_if_gt, wq_if_le, wq_icmp_eq, wq_icmp_ne, wq_icmp_lt, wq_icmp_ge, wq_icmp_gt, wq_icmp_le, wp_max, wp_min, kI_inl, kR_some, kN_inl, kO_some, KT_none, KT_some, List.length_cons, List.length_nil, Nat.reduceAdd, Nat.reduceLT, Nat.reduceLeDiff, Nat.reduceMod, Nat.reduceDiv, true_and, and_true, Int.reduceLE, Int.reduceNeg, Int.reduceLT, Int.cast_ofNat_Int, Nat.zero_le, zI, Int.reduceAdd, Int.reduceSub, Int.reduceMul, not_true_eq_false, not_false_eq_true, false_implies, true_implies, i01_0, i01_1, ite_not, ↓reduceIte, zget_0, zget_1, zget_2, zget_3, zget_4, zget_5, zget_6, zget_7, zget_8, zget_9, zget_10, zset_0, zset_1, zset_2, zset_3, zset_4, zset_5, zset_6, zset_7, zset_8, zset_9, zset_10, k0, r0, r1, r2, r3, wp_iaload k1, wp_iaload k2, wp_iaload k3, wp_iaload k4, wp_iastore k1, wp_iastore k2, wp_iastore k3, wp_iastore k4, c_isOn ht]
    grind [lp]
  | n + 1, i, s, h0, h1, h2, h3, Q => by
    have k0 := (zT_k ht).1
    have k1 := (zT_k ht).2.1
    have k2 := (zT_k ht).2.2.1
    have k3 := (zT_k ht).2.2.2.1
    have k4 := (zT_k ht).2.2.2.2
    have r0 := (zT_r0 _ ht).1
    have r1 := (zT_r0 _ ht).2.1
    have r2 := (zT_r0 _ ht).2.2.1
    have r3 := (zT_r0 _ ht).2.2.2
    have ih := l_countOn ht n (i + 1)
    rw [pg_80_4]
    simp (disch := omega) only [en_80, wp_ireturn rk_80, pg_80_0, pg_80_21, pg_80_27, cw_54, wp_iload, wp_aload, wp_istore, wp_astore, wp_iinc, wp_iconst, wp_dup, wp_dup2, wp_pop, wp_iadd, wp_isub, wp_imul, wp_idiv, wp_irem, wp_ineg, wp_iand, wp_ior, wp_ixor, wp_ishl, wp_ishr, wp_getI, wp_putI, wp_getR, wp_goto, wp_goto_w, wq_if_eq, wq_if_ne, wq_if_lt, wq_if_ge, wq_if_gt, wq_if_le, wq_icmp_eq, wq_icmp_ne, wq_icmp_lt, wq_icmp_ge, wq_icmp_gt, wq_icmp_le, wp_max, wp_min, kI_inl, kR_some, kN_inl, kO_some, KT_none, KT_some, List.length_cons, List.length_nil, Nat.reduceAdd, Nat.reduceLT, Nat.reduceLeDiff, Nat.reduceMod, Nat.reduceDiv, true_and, and_true, Int.reduceLE, Int.reduceNeg, Int.reduceLT, Int.cast_ofNat_Int, Nat.zero_le, zI, Int.reduceAdd, Int.reduceSub, Int.reduceMul, not_true_eq_false, not_false_eq_true, false_implies, true_implies, i01_0, i01_1, ite_not, ↓reduceIte, zget_0, zget_1, zget_2, zget_3, zget_4, zget_5, zget_6, zget_7, zget_8, zget_9, zget_10, zset_0, zset_1, zset_2, zset_3, zset_4, zset_5, zset_6, zset_7, zset_8, zset_9, zset_10, k0, r0, r1, r2, r3, wp_iaload k1, wp_iaload k2, wp_iaload k3, wp_iaload k4, wp_iastore k1, wp_iastore k2, wp_iastore k3, wp_iastore k4, c_isOn ht, ih]
    grind [lp, cntf, onB]
theorem c_countOn (ht : zT t) : CallP (d + 2) 80 [.inr (some t)] im Q ↔ Q (some (.inl (lp (cntf (onB (im (t + 1)))) 20 0 0))) im := by
  have k0 := (zT_k ht).1
  have k1 := (zT_k ht).2.1
  have k2 := (zT_k ht).2.2.1
  have k3 := (zT_k ht).2.2.2.1
  have k4 := (zT_k ht).2.2.2.2
  have r0 := (zT_r0 _ ht).1
  have r1 := (zT_r0 _ ht).2.1
  have r2 := (zT_r0 _ ht).2.2.1
  have r3 := (zT_r0 _ ht).2.2.2
  simp (disch := omega) only [en_80, wp_ireturn rk_80, pg_80_0, pg_80_21, pg_80_27, cw_54, wp_iload, wp_aload, wp_istore, wp_astore, wp_iinc, wp_iconst, wp_dup, wp_dup2, wp_pop, wp_iadd, wp_isub, wp_imul, wp_idiv, wp_irem, wp_ineg, wp_iand, wp_ior, wp_ixor, wp_ishl, wp_ishr, wp_getI, wp_putI, wp_getR, wp_goto, wp_goto_w, wq_if_eq, wq_if_ne, wq_if_lt, wq_if_ge, wq_if_gt, wq_if_le, wq_icmp_eq, wq_icmp_ne, wq_icmp_lt, wq_icmp_ge, wq_icmp_gt, wq_icmp_le, wp_max, wp_min, kI_inl, kR_some, kN_inl, kO_some, KT_none, KT_some, List.length_cons, List.length_nil, Nat.reduceAdd, Nat.reduceLT, Nat.reduceLeDiff, Nat.reduceMod, Nat.reduceDiv, true_and, and_true, Int.reduceLE, Int.reduceNeg, Int.reduceLT, Int.cast_ofNat_Int, Nat.zero_le, zI, Int.reduceAdd, Int.reduceSub, Int.reduceMul, not_true_eq_false, not_false_eq_true, false_implies, true_implies, i01_0, i01_1, ite_not, ↓reduceIte, zget_0, zget_1, zget_2, zget_3, zget_4, zget_5, zget_6, zget_7, zget_8, zget_9, zget_10, zset_0, zset_1, zset_2, zset_3, zset_4, zset_5, zset_6, zset_7, zset_8, zset_9, zset_10, k0, r0, r1, r2, r3, wp_iaload k1, wp_iaload k2, wp_iaload k3, wp_iaload k4, wp_iastore k1, wp_iastore k2, wp_iastore k3, wp_iastore k4, l_countOn ht 20]
end TS
