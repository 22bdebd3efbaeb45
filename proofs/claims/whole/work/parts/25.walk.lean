/-! THE CLASS'S TREE: the walk, plugging, removing, turning off, copying -/
section TW
variable {d t : Nat} {im : zM} {Q : Option zV → zM → Prop} {a b v dv kd sl : Int}
abbrev zWS : Type := (Int → Int) × Int
/-- the tree's walk and how many are on it -/
def stw (im : zM) (t : Nat) (s : zWS) : zM := setc (setc im (t + 3) s.1) t (ups (im t) 4 s.2)
theorem ups_at (c : Int → Int) (i v : Int) : ups c i v i = v := if_pos rfl
theorem ups_ne (c : Int → Int) {i j : Int} (v : Int) (h : j ≠ i) : ups c i v j = c j := if_neg h
theorem ups_ups (c : Int → Int) (i v w : Int) : ups (ups c i v) i w = ups c i w := by
  funext j
  unfold ups
  split <;> rfl
theorem setc_comm (im : zM) {o p : Nat} (c e : Int → Int) (h : o ≠ p) : setc (setc im o c) p e = setc (setc im p e) o c := by
  funext q
  unfold setc
  by_cases h1 : q = p
  · subst h1
    simp [Ne.symm h]
  · simp [h1]
theorem stw_c (im : zM) (t : Nat) (s : zWS) : stw im t s (t + 1) = im (t + 1) := by
  unfold stw
  rw [setc_ne _ _ (by omega), setc_ne _ _ (by omega)]
theorem stw_w (im : zM) (t : Nat) (s : zWS) : stw im t s (t + 3) = s.1 := by
  unfold stw
  rw [setc_ne _ _ (by omega), setc_at]
theorem stw_n (im : zM) (t : Nat) (s : zWS) : stw im t s t 4 = s.2 := by
  unfold stw
  rw [setc_at, ups_at]
theorem stw_stw (im : zM) (t : Nat) (s u : zWS) : stw (stw im t s) t u = stw im t u := by
  unfold stw
  rw [setc_at, setc_comm _ _ _ (show t ≠ t + 3 by omega), setc_setc, setc_setc, ups_ups]
theorem stw_self (im : zM) (t : Nat) : stw im t (im (t + 3), im t 4) = im := by
  unfold stw
  dsimp only
  rw [setc_self, show ups (im t) 4 (im t 4) = im t from by funext j; unfold ups; split <;> simp_all, setc_self]
def plg (c : Int → Int) (a sl : Int) : Int := ff (plgB c a sl) 20 0
/-- one slot of a bus -/
def wkf (c : Int → Int) (rec : Int → zWS → zWS) (a : Int) (slot : Int) (s : zWS) : zWS :=
  if plg c a slot ≠ -1 ∧ 0 ≤ s.2 ∧ s.2 < 20 then (if gt c (plg c a slot) 0 = 2 then rec (plg c a slot) (ups s.1 s.2 (plg c a slot), s.2 + 1) else (ups s.1 s.2 (plg c a slot), s.2 + 1)) else s
/-- a bus, l levels deep at most -/
def wkb (c : Int → Int) : Nat → Int → zWS → zWS
  | 0, _, s => s
  | l + 1, a, s => lp (wkf c (wkb c l) a) 8 0 s
theorem l_walkBus (ht : zT t) {c : Int → Int} {l : Nat} {dep : Int} (hdep : dep + (l + 1 : Nat) = 5) (hd0 : 0 ≤ dep)
    (IH : ∀ (a dep : Int) (im : zM) (Q : Option zV → zM → Prop), dep + l = 5 → 0 ≤ dep → im (t + 1) = c → (CallP (d + (l + 1) + 2) 71 [.inr (some t), .inl a, .inl dep] im Q ↔ Q none (stw im t (wkb c l a (im (t + 3), im t 4))))) :
    ∀ (n : Nat) (slot : Int) (im : zM) (x0 : zV), 0 ≤ slot → slot + n = 8 → im (t + 1) = c → ∀ Q, wp none (d + (l + 1) + 3) 71 (zpg 71 8) [.inr (some t), .inl a, .inl dep, .inl slot, x0] [] im Q ↔ Q none (stw im t (lp (wkf c (wkb c l) a) n slot (im (t + 3), im t 4)))
  | 0, slot, im, x0, h0, h1, hc, Q => by
    have k0 := (zT_k ht).1
    have k1 := (zT_k ht).2.1
    have k2 := (zT_k ht).2.2.1
    have k3 := (zT_k ht).2.2.2.1
    have k4 := (zT_k ht).2.2.2.2
    have r0 := (zT_r0 _ ht).1
    have r1 := (zT_r0 _ ht).2.1
    have r2 := (zT_r0 _ ht).2.2.1
    have r3 := (zT_r0 _ ht).2.2.2
    rw [pg_71_8]
    simp only [en_71, wp_return rk_71, pg_71_0, pg_71_6, pg_71_83, pg_71_89, cw_53, cw_64, cw_71, wp_iload, wp_aload, wp_istore, wp_astore, wp_iinc, wp_iconst, wp_dup, wp_dup2, wp_pop, wp_iadd, wp_isub, wp_imul, wp_idiv, wp_irem, wp_ineg, wp_iand, wp_ior, wp_ixor, wp_ishl, wp_ishr, wp_getI, wp_putI, wp_getR, wp_goto, wp_goto_w, wq_if_eq, wq_if_ne, wq_if_lt, wq_if_ge, wq_if_gt, wq_if_le, wq_icmp_eq, wq_icmp_ne, wq_icmp_lt, wq_icmp_ge, wq_icmp_gt, wq_icmp_le, wp_max, wp_min, kI_inl, kR_some, kN_inl, kO_some, KT_none, KT_some, List.length_cons, List.length_nil, Nat.reduceAdd, Nat.reduceLT, Nat.reduceLeDiff, Nat.reduceMod, Nat.reduceDiv, true_and, and_true, Int.reduceLE, Int.reduceNeg, Int.reduceLT, Int.cast_ofNat_Int, Nat.zero_le, zI, Int.reduceAdd, Int.reduceSub, Int.reduceMul, not_true_eq_false, not_false_eq_true, false_implies, true_implies, i01_0, i01_1, ite_not, ↓reduceIte, zget_0, zget_1, zget_2, zget_3, zget_4, zget_5, zget_6, zget_7, zget_8, zget_9, zget_10, zset_0, zset_1, zset_2, zset_3, zset_4, zset_5, zset_6, zset_7, zset_8, zset_9, zset_10, k0, r0, r1, r2, r3, wp_iaload k1, wp_iaload k2, wp_iaload k3, wp_iaload k4, wp_iastore k1, wp_iastore k2, wp_iastore k3, wp_iastore k4, show (8 : Int) ≤ slot by omega, lp, stw_self]
  | n + 1, slot, im, x0, h0, h1, hc, Q => by
    have k0 := (zT_k ht).1
    have k1 := (zT_k ht).2.1
    have k2 := (zT_k ht).2.2.1
    have k3 := (zT_k ht).2.2.2.1
    have k4 := (zT_k ht).2.2.2.2
    have r0 := (zT_r0 _ ht).1
    have r1 := (zT_r0 _ ht).2.1
    have r2 := (zT_r0 _ ht).2.2.1
    have r3 := (zT_r0 _ ht).2.2.2
    have ih := l_walkBus ht hdep hd0 IH n (slot + 1)
    rw [pg_71_8]
    have e1 : im (t + 1) = c := hc
    have q1 : ff (plgB c a slot) 20 0 = plg c a slot := rfl
    have hst : setc (setc im (t + 3) (ups (im (t + 3)) (im t 4) (plg c a slot))) t (ups (setc im (t + 3) (ups (im (t + 3)) (im t 4) (plg c a slot)) t) 4 (im t 4 + 1)) = stw im t (ups (im (t + 3)) (im t 4) (plg c a slot), im t 4 + 1) := by
      unfold stw
      rw [setc_ne _ _ (show t ≠ t + 3 by omega)]
    have hr : setc im (t + 3) (ups (im (t + 3)) (im t 4) (plg c a slot)) t 4 = im t 4 := by rw [setc_ne _ _ (show t ≠ t + 3 by omega)]
    simp (disch := first | omega | assumption | (simp only [stw_c]; assumption)) only [wp_return rk_71, pg_71_6, pg_71_83, pg_71_89, cw_53, cw_64, cw_71, wp_iload, wp_aload, wp_istore, wp_astore, wp_iinc, wp_iconst, wp_dup, wp_dup2, wp_pop, wp_iadd, wp_isub, wp_imul, wp_idiv, wp_irem, wp_ineg, wp_iand, wp_ior, wp_ixor, wp_ishl, wp_ishr, wp_getI, wp_putI, wp_getR, wp_goto, wp_goto_w, wq_if_eq, wq_if_ne, wq_if_lt, wq_if_ge, wq_if_gt, wq_if_le, wq_icmp_eq, wq_icmp_ne, wq_icmp_lt, wq_icmp_ge, wq_icmp_gt, wq_icmp_le, wp_max, wp_min, kI_inl, kR_some, kN_inl, kO_some, KT_none, KT_some, List.length_cons, List.length_nil, Nat.reduceAdd, Nat.reduceLT, Nat.reduceLeDiff, Nat.reduceMod, Nat.reduceDiv, true_and, and_true, Int.reduceLE, Int.reduceNeg, Int.reduceLT, Int.cast_ofNat_Int, Nat.zero_le, zI, Int.reduceAdd, Int.reduceSub, Int.reduceMul, not_true_eq_false, not_false_eq_true, false_implies, true_implies, i01_0, i01_1, ite_not, ↓reduceIte, zget_0, zget_1, zget_2, zget_3, zget_4, zget_5, zget_6, zget_7, zget_8, zget_9, zget_10, zset_0, zset_1, zset_2, zset_3, zset_4, zset_5, zset_6, zset_7, zset_8, zset_9, zset_10, k0, r0, r1, r2, r3, wp_iaload k1, wp_iaload k2, wp_iaload k3, wp_iaload k4, wp_iastore k1, wp_iastore k2, wp_iastore k3, wp_iastore k4, show ¬ (8 : Int) ≤ slot by omega, c_plugged ht, c_isBridge ht, hc, q1, zu_setc, lp, hr, hst, stw_c, IH, stw_w, stw_n, stw_stw, ih]
    clear IH ih
    clear k0 k1 k2 k3 k4 r0 r1 r2 r3
    simp only [wkf]
    grind (splits := 20)
theorem c_walkBus (ht : zT t) {c : Int → Int} : ∀ (l : Nat) (a dep : Int) (im : zM) (Q : Option zV → zM → Prop), dep + l = 5 → 0 ≤ dep → im (t + 1) = c → (CallP (d + l + 3) 71 [.inr (some t), .inl a, .inl dep] im Q ↔ Q none (stw im t (wkb c l a (im (t + 3), im t 4))))
  | 0, a, dep, im, Q, h0, h1, hc => by
    have k0 := (zT_k ht).1
    have k1 := (zT_k ht).2.1
    have k2 := (zT_k ht).2.2.1
    have k3 := (zT_k ht).2.2.2.1
    have k4 := (zT_k ht).2.2.2.2
    have r0 := (zT_r0 _ ht).1
    have r1 := (zT_r0 _ ht).2.1
    have r2 := (zT_r0 _ ht).2.2.1
    have r3 := (zT_r0 _ ht).2.2.2
    simp only [en_71, wp_return rk_71, pg_71_0, pg_71_6, pg_71_83, pg_71_89, cw_53, cw_64, cw_71, wp_iload, wp_aload, wp_istore, wp_astore, wp_iinc, wp_iconst, wp_dup, wp_dup2, wp_pop, wp_iadd, wp_isub, wp_imul, wp_idiv, wp_irem, wp_ineg, wp_iand, wp_ior, wp_ixor, wp_ishl, wp_ishr, wp_getI, wp_putI, wp_getR, wp_goto, wp_goto_w, wq_if_eq, wq_if_ne, wq_if_lt, wq_if_ge, wq_if_gt, wq_if_le, wq_icmp_eq, wq_icmp_ne, wq_icmp_lt, wq_icmp_ge, wq_icmp_gt, wq_icmp_le, wp_max, wp_min, kI_inl, kR_some, kN_inl, kO_some, KT_none, KT_some, List.length_cons, List.length_nil, Nat.reduceAdd, Nat.reduceLT, Nat.reduceLeDiff, Nat.reduceMod, Nat.reduceDiv, true_and, and_true, Int.reduceLE, Int.reduceNeg, Int.reduceLT, Int.cast_ofNat_Int, Nat.zero_le, zI, Int.reduceAdd, Int.reduceSub, Int.reduceMul, not_true_eq_false, not_false_eq_true, false_implies, true_implies, i01_0, i01_1, ite_not, ↓reduceIte, zget_0, zget_1, zget_2, zget_3, zget_4, zget_5, zget_6, zget_7, zget_8, zget_9, zget_10, zset_0, zset_1, zset_2, zset_3, zset_4, zset_5, zset_6, zset_7, zset_8, zset_9, zset_10, k0, r0, r1, r2, r3, wp_iaload k1, wp_iaload k2, wp_iaload k3, wp_iaload k4, wp_iastore k1, wp_iastore k2, wp_iastore k3, wp_iastore k4, show ¬ dep ≤ 4 by omega, wkb, stw_self]
  | l + 1, a, dep, im, Q, h0, h1, hc => by
    have k0 := (zT_k ht).1
    have k1 := (zT_k ht).2.1
    have k2 := (zT_k ht).2.2.1
    have k3 := (zT_k ht).2.2.2.1
    have k4 := (zT_k ht).2.2.2.2
    have r0 := (zT_r0 _ ht).1
    have r1 := (zT_r0 _ ht).2.1
    have r2 := (zT_r0 _ ht).2.2.1
    have r3 := (zT_r0 _ ht).2.2.2
    have IH := c_walkBus ht (c := c) l
    have hl := l_walkBus (d := d) (a := a) ht (c := c) (l := l) (dep := dep) h0 h1 IH 8 0
    simp (disch := omega) only [en_71, wp_return rk_71, pg_71_0, pg_71_6, pg_71_83, pg_71_89, cw_53, cw_64, cw_71, wp_iload, wp_aload, wp_istore, wp_astore, wp_iinc, wp_iconst, wp_dup, wp_dup2, wp_pop, wp_iadd, wp_isub, wp_imul, wp_idiv, wp_irem, wp_ineg, wp_iand, wp_ior, wp_ixor, wp_ishl, wp_ishr, wp_getI, wp_putI, wp_getR, wp_goto, wp_goto_w, wq_if_eq, wq_if_ne, wq_if_lt, wq_if_ge, wq_if_gt, wq_if_le, wq_icmp_eq, wq_icmp_ne, wq_icmp_lt, wq_icmp_ge, wq_icmp_gt, wq_icmp_le, wp_max, wp_min, kI_inl, kR_some, kN_inl, kO_some, KT_none, KT_some, List.length_cons, List.length_nil, Nat.reduceAdd, Nat.reduceLT, Nat.reduceLeDiff, Nat.reduceMod, Nat.reduceDiv, true_and, and_true, Int.reduceLE, Int.reduceNeg, Int.reduceLT, Int.cast_ofNat_Int, Nat.zero_le, zI, Int.reduceAdd, Int.reduceSub, Int.reduceMul, not_true_eq_false, not_false_eq_true, false_implies, true_implies, i01_0, i01_1, ite_not, ↓reduceIte, zget_0, zget_1, zget_2, zget_3, zget_4, zget_5, zget_6, zget_7, zget_8, zget_9, zget_10, zset_0, zset_1, zset_2, zset_3, zset_4, zset_5, zset_6, zset_7, zset_8, zset_9, zset_10, k0, r0, r1, r2, r3, wp_iaload k1, wp_iaload k2, wp_iaload k3, wp_iaload k4, wp_iastore k1, wp_iastore k2, wp_iastore k3, wp_iastore k4, show dep ≤ 4 by omega]
    rw [show d + (l + 1) + 3 = d + (l + 1) + 3 from rfl]
    simp (disch := first | omega | assumption) only [hl, hc, wkb]
end TW
