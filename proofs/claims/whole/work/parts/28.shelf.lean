/-! THE CLASS'S SHELF: five rows and a count -/
section SH
variable {d s t u : Nat} {im : zM} {Q : Option zV → zM → Prop} {a b v dv kd sl e1 e2 e3 e4 e5 : Int}
abbrev zSS : Type := (Int → Int) × (Int → Int) × (Int → Int) × (Int → Int) × (Int → Int) × Int
def gsh (im : zM) (s : Nat) : zSS := (im (s + 1), im (s + 2), im (s + 3), im (s + 4), im (s + 5), im s 5)
def sth (im : zM) (s : Nat) (z : zSS) : zM := setc (setc (setc (setc (setc (setc im (s + 1) z.1) (s + 2) z.2.1) (s + 3) z.2.2.1) (s + 4) z.2.2.2.1) (s + 5) z.2.2.2.2.1) s (ups (im s) 5 z.2.2.2.2.2)
theorem sth_ne (im : zM) {s p : Nat} (z : zSS) (h : p < s ∨ s + 5 < p) : sth im s z p = im p := by
  unfold sth
  simp (disch := omega) only [setc_ne]
theorem sth_1 (im : zM) (s : Nat) (z : zSS) : sth im s z (s + 1) = z.1 := by
  unfold sth
  simp (disch := omega) only [setc_ne, setc_at]
theorem sth_2 (im : zM) (s : Nat) (z : zSS) : sth im s z (s + 2) = z.2.1 := by
  unfold sth
  simp (disch := omega) only [setc_ne, setc_at]
theorem sth_3 (im : zM) (s : Nat) (z : zSS) : sth im s z (s + 3) = z.2.2.1 := by
  unfold sth
  simp (disch := omega) only [setc_ne, setc_at]
theorem sth_4 (im : zM) (s : Nat) (z : zSS) : sth im s z (s + 4) = z.2.2.2.1 := by
  unfold sth
  simp (disch := omega) only [setc_ne, setc_at]
theorem sth_5 (im : zM) (s : Nat) (z : zSS) : sth im s z (s + 5) = z.2.2.2.2.1 := by
  unfold sth
  simp (disch := omega) only [setc_ne, setc_at]
theorem sth_n (im : zM) (s : Nat) (z : zSS) : sth im s z s 5 = z.2.2.2.2.2 := by
  unfold sth
  rw [setc_at, ups_at]
theorem gsh_sth (im : zM) (s : Nat) (z : zSS) : gsh (sth im s z) s = z := by
  unfold gsh
  rw [sth_1, sth_2, sth_3, sth_4, sth_5, sth_n]
theorem ups_self (c : Int → Int) (i : Int) : ups c i (c i) = c := by
  funext j
  unfold ups
  split
  · rename_i h; rw [h]
  · rfl
theorem sth_gsh (im : zM) (s : Nat) : sth im s (gsh im s) = im := by
  unfold sth gsh
  dsimp only
  rw [ups_self, setc_self, setc_self, setc_self, setc_self, setc_self, setc_self]
theorem sth_sth (im : zM) (s : Nat) (z y : zSS) : sth (sth im s z) s y = sth im s y := by
  funext p
  by_cases h : p < s ∨ s + 5 < p
  · rw [sth_ne _ _ h, sth_ne _ _ h, sth_ne _ _ h]
  · rcases (show p = s ∨ p = s + 1 ∨ p = s + 2 ∨ p = s + 3 ∨ p = s + 4 ∨ p = s + 5 by omega) with rfl | rfl | rfl | rfl | rfl | rfl
    · unfold sth
      rw [setc_at, setc_at, setc_at, ups_ups]
    · rw [sth_1, sth_1]
    · rw [sth_2, sth_2]
    · rw [sth_3, sth_3]
    · rw [sth_4, sth_4]
    · rw [sth_5, sth_5]
def clrS (z : zSS) : zSS := (z.1, z.2.1, z.2.2.1, z.2.2.2.1, z.2.2.2.2.1, 0)
theorem c_clear (hs : zSh s) : CallP d 32 [.inr (some s)] im Q ↔ Q none (sth im s (clrS (gsh im s))) := by
  have k0 := (zSh_k hs).1
  have k1 := (zSh_k hs).2.1
  have k2 := (zSh_k hs).2.2.1
  have k3 := (zSh_k hs).2.2.2.1
  have k4 := (zSh_k hs).2.2.2.2.1
  have k5 := (zSh_k hs).2.2.2.2.2
  have r0 := (zSh_r0 _ hs).1
  have r1 := (zSh_r0 _ hs).2.1
  have r2 := (zSh_r0 _ hs).2.2.1
  have r3 := (zSh_r0 _ hs).2.2.2.1
  have r4 := (zSh_r0 _ hs).2.2.2.2
  have e : sth im s (clrS (gsh im s)) = zu im s 5 0 := by
    unfold sth clrS gsh
    dsimp only
    rw [setc_self, setc_self, setc_self, setc_self, setc_self, zu_setc]
  rw [e]
  simp (disch := omega) only [en_32, wp_return rk_32, pg_32_0, wp_iload, wp_aload, wp_istore, wp_astore, wp_iinc, wp_iconst, wp_dup, wp_dup2, wp_pop, wp_iadd, wp_isub, wp_imul, wp_idiv, wp_irem, wp_ineg, wp_iand, wp_ior, wp_ixor, wp_ishl, wp_ishr, wp_getI, wp_putI, wp_getR, wp_goto, wp_goto_w, wq_if_eq, wq_if_ne, wq_if_lt, wq_if_ge, wq_if_gt, wq_if_le, wq_icmp_eq, wq_icmp_ne, wq_icmp_lt, wq_icmp_ge, wq_icmp_gt, wq_icmp_le, wp_max, wp_min, kI_inl, kR_some, kN_inl, kO_some, KT_none, KT_some, List.length_cons, List.length_nil, Nat.reduceAdd, Nat.reduceLT, Nat.reduceLeDiff, Nat.reduceMod, Nat.reduceDiv, true_and, and_true, Int.reduceLE, Int.reduceNeg, Int.reduceLT, Int.cast_ofNat_Int, Nat.zero_le, zI, Int.reduceAdd, Int.reduceSub, Int.reduceMul, not_true_eq_false, not_false_eq_true, false_implies, true_implies, i01_0, i01_1, ite_not, ↓reduceIte, zget_0, zget_1, zget_2, zget_3, zget_4, zget_5, zget_6, zget_7, zget_8, zget_9, zget_10, zset_0, zset_1, zset_2, zset_3, zset_4, zset_5, zset_6, zset_7, zset_8, zset_9, zset_10, k0, r0, r1, r2, r3, r4, wp_iaload k1, wp_iaload k2, wp_iaload k3, wp_iaload k4, wp_iaload k5, wp_iastore k1, wp_iastore k2, wp_iastore k3, wp_iastore k4, wp_iastore k5]
def addS (z : zSS) (e1 e2 e3 e4 e5 : Int) : zSS := if 0 ≤ z.2.2.2.2.2 ∧ z.2.2.2.2.2 < 27 then (ups z.1 z.2.2.2.2.2 e1, ups z.2.1 z.2.2.2.2.2 e2, ups z.2.2.1 z.2.2.2.2.2 e3, ups z.2.2.2.1 z.2.2.2.2.2 e4, ups z.2.2.2.2.1 z.2.2.2.2.2 e5, z.2.2.2.2.2 + 1) else z
theorem c_add (hs : zSh s) : CallP d 35 [.inr (some s), .inl e1, .inl e2, .inl e3, .inl e4, .inl e5] im Q ↔ Q none (sth im s (addS (gsh im s) e1 e2 e3 e4 e5)) := by
  have k0 := (zSh_k hs).1
  have k1 := (zSh_k hs).2.1
  have k2 := (zSh_k hs).2.2.1
  have k3 := (zSh_k hs).2.2.2.1
  have k4 := (zSh_k hs).2.2.2.2.1
  have k5 := (zSh_k hs).2.2.2.2.2
  have r0 := (zSh_r0 _ hs).1
  have r1 := (zSh_r0 _ hs).2.1
  have r2 := (zSh_r0 _ hs).2.2.1
  have r3 := (zSh_r0 _ hs).2.2.2.1
  have r4 := (zSh_r0 _ hs).2.2.2.2
  simp (disch := omega) only [en_35, wp_return rk_35, pg_35_0, pg_35_78, wp_iload, wp_aload, wp_istore, wp_astore, wp_iinc, wp_iconst, wp_dup, wp_dup2, wp_pop, wp_iadd, wp_isub, wp_imul, wp_idiv, wp_irem, wp_ineg, wp_iand, wp_ior, wp_ixor, wp_ishl, wp_ishr, wp_getI, wp_putI, wp_getR, wp_goto, wp_goto_w, wq_if_eq, wq_if_ne, wq_if_lt, wq_if_ge, wq_if_gt, wq_if_le, wq_icmp_eq, wq_icmp_ne, wq_icmp_lt, wq_icmp_ge, wq_icmp_gt, wq_icmp_le, wp_max, wp_min, kI_inl, kR_some, kN_inl, kO_some, KT_none, KT_some, List.length_cons, List.length_nil, Nat.reduceAdd, Nat.reduceLT, Nat.reduceLeDiff, Nat.reduceMod, Nat.reduceDiv, true_and, and_true, Int.reduceLE, Int.reduceNeg, Int.reduceLT, Int.cast_ofNat_Int, Nat.zero_le, zI, Int.reduceAdd, Int.reduceSub, Int.reduceMul, not_true_eq_false, not_false_eq_true, false_implies, true_implies, i01_0, i01_1, ite_not, ↓reduceIte, zget_0, zget_1, zget_2, zget_3, zget_4, zget_5, zget_6, zget_7, zget_8, zget_9, zget_10, zset_0, zset_1, zset_2, zset_3, zset_4, zset_5, zset_6, zset_7, zset_8, zset_9, zset_10, k0, r0, r1, r2, r3, r4, wp_iaload k1, wp_iaload k2, wp_iaload k3, wp_iaload k4, wp_iaload k5, wp_iastore k1, wp_iastore k2, wp_iastore k3, wp_iastore k4, wp_iastore k5, zu_setc, setc_ne]
  simp only [addS]
  by_cases hr : 0 ≤ im s 5 ∧ im s 5 < 27
  · have g : (gsh im s).2.2.2.2.2 = im s 5 := rfl
    rw [g, if_pos hr]
    simp only [show ¬ im s 5 < 0 by omega, show ¬ 27 ≤ im s 5 by omega, if_false, hr.1, hr.2, and_self, true_and, sth, gsh]
    exact ⟨fun h => h.2, fun h => ⟨⟨by omega, by omega⟩, h⟩⟩
  · have g : (gsh im s).2.2.2.2.2 = im s 5 := rfl
    rw [g, if_neg hr, sth_gsh]
    by_cases g1 : im s 5 < 0
    · simp only [g1, if_true]
    · simp only [g1, if_false, show 27 ≤ im s 5 by omega, if_true]
end SH
