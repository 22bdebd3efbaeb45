/-! THE CLASS'S SHELF: ordering, laying, sums -/
section SO
variable {d s t u o : Nat} {im : zM} {Q : Option zV → zM → Prop} {a b v dv kd sl i j : Int}
def rup (v st : Int) : Int := zand (v + st - 1) (-st)
theorem c_roundUp (h1 : -2147483648 ≤ v + a ∧ v + a ≤ 2147483647) (h2 : -2147483648 ≤ v + a - 1 ∧ v + a - 1 ≤ 2147483647) (h3 : -2147483648 ≤ -a ∧ -a ≤ 2147483647) : CallP d 139 [.inl v, .inl a] im Q ↔ Q (some (.inl (rup v a))) im := by
  simp (disch := omega) only [en_139, wp_ireturn rk_139, pg_139_0, wp_iload, wp_aload, wp_istore, wp_astore, wp_iinc, wp_iconst, wp_dup, wp_dup2, wp_pop, wp_iadd, wp_isub, wp_imul, wp_idiv, wp_irem, wp_ineg, wp_iand, wp_ior, wp_ixor, wp_ishl, wp_ishr, wp_getI, wp_putI, wp_getR, wp_goto, wp_goto_w, wq_if_eq, wq_if_ne, wq_if_lt, wq_if_ge, wq_if_gt, wq_if_le, wq_icmp_eq, wq_icmp_ne, wq_icmp_lt, wq_icmp_ge, wq_icmp_gt, wq_icmp_le, wp_max, wp_min, kI_inl, kR_some, kN_inl, kO_some, KT_none, KT_some, List.length_cons, List.length_nil, Nat.reduceAdd, Nat.reduceLT, Nat.reduceLeDiff, Nat.reduceMod, Nat.reduceDiv, true_and, and_true, Int.reduceLE, Int.reduceNeg, Int.reduceLT, Int.cast_ofNat_Int, Nat.zero_le, zI, Int.reduceAdd, Int.reduceSub, Int.reduceMul, not_true_eq_false, not_false_eq_true, false_implies, true_implies, i01_0, i01_1, ite_not, ↓reduceIte, zget_0, zget_1, zget_2, zget_3, zget_4, zget_5, zget_6, zget_7, zget_8, zget_9, zget_10, zset_0, zset_1, zset_2, zset_3, zset_4, zset_5, zset_6, zset_7, zset_8, zset_9, zset_10, h1, h2, h3, and_self, true_and, rup]
def swf (c : Int → Int) (j : Int) : Int → Int := ups (ups c j (c (j - 1))) (j - 1) (c j)
theorem c_swap (hk : K0[o]? = some (0, 27)) (hj : 0 < j ∧ j < 27) : CallP d 39 [.inr (some o), .inl j] im Q ↔ Q none (setc im o (swf (im o) j)) := by
  simp (disch := omega) only [en_39, wp_return rk_39, pg_39_0, pg_39_28, wp_iload, wp_aload, wp_istore, wp_astore, wp_iinc, wp_iconst, wp_dup, wp_dup2, wp_pop, wp_iadd, wp_isub, wp_imul, wp_idiv, wp_irem, wp_ineg, wp_iand, wp_ior, wp_ixor, wp_ishl, wp_ishr, wp_getI, wp_putI, wp_getR, wp_goto, wp_goto_w, wq_if_eq, wq_if_ne, wq_if_lt, wq_if_ge, wq_if_gt, wq_if_le, wq_icmp_eq, wq_icmp_ne, wq_icmp_lt, wq_icmp_ge, wq_icmp_gt, wq_icmp_le, wp_max, wp_min, kI_inl, kR_some, kN_inl, kO_some, KT_none, KT_some, List.length_cons, List.length_nil, Nat.reduceAdd, Nat.reduceLT, Nat.reduceLeDiff, Nat.reduceMod, Nat.reduceDiv, true_and, and_true, Int.reduceLE, Int.reduceNeg, Int.reduceLT, Int.cast_ofNat_Int, Nat.zero_le, zI, Int.reduceAdd, Int.reduceSub, Int.reduceMul, not_true_eq_false, not_false_eq_true, false_implies, true_implies, i01_0, i01_1, ite_not, ↓reduceIte, zget_0, zget_1, zget_2, zget_3, zget_4, zget_5, zget_6, zget_7, zget_8, zget_9, zget_10, zset_0, zset_1, zset_2, zset_3, zset_4, zset_5, zset_6, zset_7, zset_8, zset_9, zset_10, wp_alen hk, wp_iaload hk, wp_iastore hk, show ¬ j ≤ 0 by omega, show ¬ 27 ≤ j by omega, show ¬ (27 : Int) ≤ j by omega, zu_setc, setc_at, setc_setc]
  rw [show ups (im o) j (im o (j - 1)) = ups (im o) j (im o (j - 1)) from rfl]
  simp only [swf]
  exact ⟨fun h => by grind, fun h => by grind⟩
def ahd (z : zSS) (i j : Int) : Prop := z.2.2.1 j < z.2.2.1 i ∨ (z.2.2.1 i = z.2.2.1 j ∧ z.2.2.2.1 j < z.2.2.2.1 i)
theorem c_isAhead (hs : zSh s) (hi : 0 ≤ i ∧ i < 27) (hj : 0 ≤ j ∧ j < 27) : CallP d 38 [.inr (some s), .inl i, .inl j] im Q ↔ Q (some (.inl (if im (s + 3) j < im (s + 3) i ∨ (im (s + 3) i = im (s + 3) j ∧ im (s + 4) j < im (s + 4) i) then 1 else 0))) im := by
  have k0 := (zSh_k hs).1
  have k1 := (zSh_k hs).2.1
  have k2 := (zSh_k hs).2.2.1
  have k3 := (zSh_k hs).2.2.2.1
  have k4 := (zSh_k hs).2.2.2.2.1
  have k5 := (zSh_k hs).2.2.2.2.2
  have r0 := (zSh_r0 _ hs).1
  have r1 := (zSh_r0 _ hs).2.1
  have r2 := (zSh_r0 _ hs).2.2.1
  have r3 := (zSh_r0 _ hs).2.2.2.1
  have r4 := (zSh_r0 _ hs).2.2.2.2
  simp (disch := omega) only [en_38, wp_zreturn rk_38, pg_38_0, pg_38_45, pg_38_49, pg_38_50, wp_iload, wp_aload, wp_istore, wp_astore, wp_iinc, wp_iconst, wp_dup, wp_dup2, wp_pop, wp_iadd, wp_isub, wp_imul, wp_idiv, wp_irem, wp_ineg, wp_iand, wp_ior, wp_ixor, wp_ishl, wp_ishr, wp_getI, wp_putI, wp_getR, wp_goto, wp_goto_w, wq_if_eq, wq_if_ne, wq_if_lt, wq_if_ge, wq_if_gt, wq_if_le, wq_icmp_eq, wq_icmp_ne, wq_icmp_lt, wq_icmp_ge, wq_icmp_gt, wq_icmp_le, wp_max, wp_min, kI_inl, kR_some, kN_inl, kO_some, KT_none, KT_some, List.length_cons, List.length_nil, Nat.reduceAdd, Nat.reduceLT, Nat.reduceLeDiff, Nat.reduceMod, Nat.reduceDiv, true_and, and_true, Int.reduceLE, Int.reduceNeg, Int.reduceLT, Int.cast_ofNat_Int, Nat.zero_le, zI, Int.reduceAdd, Int.reduceSub, Int.reduceMul, not_true_eq_false, not_false_eq_true, false_implies, true_implies, i01_0, i01_1, ite_not, ↓reduceIte, zget_0, zget_1, zget_2, zget_3, zget_4, zget_5, zget_6, zget_7, zget_8, zget_9, zget_10, zset_0, zset_1, zset_2, zset_3, zset_4, zset_5, zset_6, zset_7, zset_8, zset_9, zset_10, k0, r0, r1, r2, r3, r4, wp_iaload k1, wp_iaload k2, wp_iaload k3, wp_iaload k4, wp_iaload k5, wp_iastore k1, wp_iastore k2, wp_iastore k3, wp_iastore k4, wp_iastore k5]
  clear k0 k1 k2 k3 k4 k5 r0 r1 r2 r3 r4
  grind (splits := 20)
def sw5 (z : zSS) (j : Int) : zSS := (swf z.1 j, swf z.2.1 j, swf z.2.2.1 j, swf z.2.2.2.1 j, swf z.2.2.2.2.1 j, z.2.2.2.2.2)
theorem sth_rows (im : zM) (s : Nat) (r1 r2 r3 r4 r5 : Int → Int) : setc (setc (setc (setc (setc im (s + 1) r1) (s + 2) r2) (s + 3) r3) (s + 4) r4) (s + 5) r5 = sth im s (r1, r2, r3, r4, r5, im s 5) := by
  unfold sth
  dsimp only
  rw [ups_self]
  funext p
  by_cases h : p = s
  · subst h
    rw [setc_at]
    simp (disch := omega) only [setc_ne]
  · rw [setc_ne _ (o := s) _ h]
noncomputable def ordI : Nat → zSS → zSS
  | 0, z => z
  | j + 1, z => if z.2.2.1 (j : Nat) < z.2.2.1 ((j : Nat) + 1) ∨ (z.2.2.1 ((j : Nat) + 1) = z.2.2.1 (j : Nat) ∧ z.2.2.2.1 (j : Nat) < z.2.2.2.1 ((j : Nat) + 1)) then ordI j (sw5 z ((j : Nat) + 1)) else z
theorem l_ordI (hs : zSh s) {i : Int} (hi : -1000 ≤ i ∧ i ≤ 1000) {F : zM → zM} (hF : ∀ (im : zM) (x2 : zV) Q, wp none (d + 1) 37 (zpg 37 2) [.inr (some s), .inl (i + 1), x2] [] im Q ↔ Q none (F im)) :
    ∀ (j : Nat) (im : zM), j < 27 → ∀ Q, wp none (d + 1) 37 (zpg 37 18) [.inr (some s), .inl i, .inl (j : Nat)] [] im Q ↔ Q none (F (sth im s (ordI j (gsh im s))))
  | 0, im, hj, Q => by
    have k0 := (zSh_k hs).1
    have k1 := (zSh_k hs).2.1
    have k2 := (zSh_k hs).2.2.1
    have k3 := (zSh_k hs).2.2.2.1
    have k4 := (zSh_k hs).2.2.2.2.1
    have k5 := (zSh_k hs).2.2.2.2.2
    have r0 := (zSh_r0 _ hs).1
    have r1 := (zSh_r0 _ hs).2.1
    have r2 := (zSh_r0 _ hs).2.2.1
    have r3 := (zSh_r0 _ hs).2.2.2.1
    have r4 := (zSh_r0 _ hs).2.2.2.2
    rw [pg_37_18]
    simp (disch := omega) only [en_37, wp_return rk_37, pg_37_0, pg_37_79, pg_37_85, cw_38, cw_39, wp_iload, wp_aload, wp_istore, wp_astore, wp_iinc, wp_iconst, wp_dup, wp_dup2, wp_pop, wp_iadd, wp_isub, wp_imul, wp_idiv, wp_irem, wp_ineg, wp_iand, wp_ior, wp_ixor, wp_ishl, wp_ishr, wp_getI, wp_putI, wp_getR, wp_goto, wp_goto_w, wq_if_eq, wq_if_ne, wq_if_lt, wq_if_ge, wq_if_gt, wq_if_le, wq_icmp_eq, wq_icmp_ne, wq_icmp_lt, wq_icmp_ge, wq_icmp_gt, wq_icmp_le, wp_max, wp_min, kI_inl, kR_some, kN_inl, kO_some, KT_none, KT_some, List.length_cons, List.length_nil, Nat.reduceAdd, Nat.reduceLT, Nat.reduceLeDiff, Nat.reduceMod, Nat.reduceDiv, true_and, and_true, Int.reduceLE, Int.reduceNeg, Int.reduceLT, Int.cast_ofNat_Int, Nat.zero_le, zI, Int.reduceAdd, Int.reduceSub, Int.reduceMul, not_true_eq_false, not_false_eq_true, false_implies, true_implies, i01_0, i01_1, ite_not, ↓reduceIte, zget_0, zget_1, zget_2, zget_3, zget_4, zget_5, zget_6, zget_7, zget_8, zget_9, zget_10, zset_0, zset_1, zset_2, zset_3, zset_4, zset_5, zset_6, zset_7, zset_8, zset_9, zset_10, k0, r0, r1, r2, r3, r4, wp_iaload k1, wp_iaload k2, wp_iaload k3, wp_iaload k4, wp_iaload k5, wp_iastore k1, wp_iastore k2, wp_iastore k3, wp_iastore k4, wp_iastore k5, hF, ordI, sth_gsh, show ((0 : Nat) : Int) ≤ 0 by omega]
    exact ⟨fun h => h.2, fun h => ⟨⟨by omega, by omega⟩, h⟩⟩
  | j + 1, im, hj, Q => by
    have k0 := (zSh_k hs).1
    have k1 := (zSh_k hs).2.1
    have k2 := (zSh_k hs).2.2.1
    have k3 := (zSh_k hs).2.2.2.1
    have k4 := (zSh_k hs).2.2.2.2.1
    have k5 := (zSh_k hs).2.2.2.2.2
    have r0 := (zSh_r0 _ hs).1
    have r1 := (zSh_r0 _ hs).2.1
    have r2 := (zSh_r0 _ hs).2.2.1
    have r3 := (zSh_r0 _ hs).2.2.2.1
    have r4 := (zSh_r0 _ hs).2.2.2.2
    have ih := l_ordI hs hi hF j
    have ec : ((j + 1 : Nat) : Int) = (j : Int) + 1 := by omega
    rw [pg_37_18, ec]
    have e1 : (j : Int) + 1 - 1 = j := by omega
    have e2 : (j : Int) + 1 + -1 = j := by omega
    simp (disch := first | omega | assumption) only [en_37, wp_return rk_37, pg_37_0, pg_37_79, pg_37_85, cw_38, cw_39, wp_iload, wp_aload, wp_istore, wp_astore, wp_iinc, wp_iconst, wp_dup, wp_dup2, wp_pop, wp_iadd, wp_isub, wp_imul, wp_idiv, wp_irem, wp_ineg, wp_iand, wp_ior, wp_ixor, wp_ishl, wp_ishr, wp_getI, wp_putI, wp_getR, wp_goto, wp_goto_w, wq_if_eq, wq_if_ne, wq_if_lt, wq_if_ge, wq_if_gt, wq_if_le, wq_icmp_eq, wq_icmp_ne, wq_icmp_lt, wq_icmp_ge, wq_icmp_gt, wq_icmp_le, wp_max, wp_min, kI_inl, kR_some, kN_inl, kO_some, KT_none, KT_some, List.length_cons, List.length_nil, Nat.reduceAdd, Nat.reduceLT, Nat.reduceLeDiff, Nat.reduceMod, Nat.reduceDiv, true_and, and_true, Int.reduceLE, Int.reduceNeg, Int.reduceLT, Int.cast_ofNat_Int, Nat.zero_le, zI, Int.reduceAdd, Int.reduceSub, Int.reduceMul, not_true_eq_false, not_false_eq_true, false_implies, true_implies, i01_0, i01_1, ite_not, ↓reduceIte, zget_0, zget_1, zget_2, zget_3, zget_4, zget_5, zget_6, zget_7, zget_8, zget_9, zget_10, zset_0, zset_1, zset_2, zset_3, zset_4, zset_5, zset_6, zset_7, zset_8, zset_9, zset_10, k0, r0, r1, r2, r3, r4, wp_iaload k1, wp_iaload k2, wp_iaload k3, wp_iaload k4, wp_iaload k5, wp_iastore k1, wp_iastore k2, wp_iastore k3, wp_iastore k4, wp_iastore k5, show ¬ (j : Int) + 1 ≤ 0 by omega, c_isAhead hs, c_swap, e1, e2, setc_ne, sth_rows, hF, ih, gsh_sth, sth_sth, ordI]
    clear ih hF
    clear k0 k1 k2 k3 k4 k5 r0 r1 r2 r3 r4
    have g : sw5 (gsh im s) ((j : Int) + 1) = (swf (im (s + 1)) (↑j + 1), swf (im (s + 2)) (↑j + 1), swf (im (s + 3)) (↑j + 1), swf (im (s + 4)) (↑j + 1), swf (im (s + 5)) (↑j + 1), im s 5) := rfl
    rw [g]
    have g3 : (gsh im s).2.2.1 = im (s + 3) := rfl
    have g4 : (gsh im s).2.2.2.1 = im (s + 4) := rfl
    rw [g3, g4]
    by_cases hc : im (s + 3) j < im (s + 3) (↑j + 1) ∨ (im (s + 3) (↑j + 1) = im (s + 3) j ∧ im (s + 4) j < im (s + 4) (↑j + 1))
    · simp only [hc, if_true]
      exact ⟨fun h => h.2.2, fun h => ⟨⟨by omega, by omega⟩, ⟨by omega, by omega⟩, h⟩⟩
    · simp only [hc, if_false, sth_gsh]
      exact ⟨fun h => h.2.2, fun h => ⟨⟨by omega, by omega⟩, ⟨by omega, by omega⟩, h⟩⟩
end SO
