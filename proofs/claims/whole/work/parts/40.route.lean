/-! THE CLASS'S ROUTE -/
section RO
variable {d s t u o : Nat} {im : zM} {Q : Option zV → zM → Prop} {a b v dv kd sl i j k f ad : Int}
theorem zSh_165 : zSh 165 := by decide
theorem kd_165 : K0[165]? = some (7, 0) := (zSh_k zSh_165).1
theorem c_holds (ht : zT t) (hk : 0 ≤ k ∧ k < 2) (had : -2147483648 ≤ ad ∧ ad ≤ 2147483647) : CallP (d + 2) 29 [.inr (some t), .inl a, .inl k, .inl ad] im Q ↔ Q (some (.inl (if 0 ≤ begf (im (t + 1)) a k ∧ begf (im (t + 1)) a k ≤ ad ∧ ad - begf (im (t + 1)) a k < lenf (im (t + 1)) (im (t + 2)) a k then 1 else 0))) im := by
  have k0 := (zT_k ht).1
  simp (disch := omega) only [en_29, wp_zreturn rk_29, pg_29_0, pg_29_36, pg_29_37, cw_59, cw_60, wp_iload, wp_aload, wp_istore, wp_astore, wp_iinc, wp_iconst, wp_dup, wp_dup2, wp_pop, wp_iadd, wp_isub, wp_imul, wp_idiv, wp_irem, wp_ineg, wp_iand, wp_ior, wp_ixor, wp_ishl, wp_ishr, wp_getI, wp_putI, wp_getR, wp_goto, wp_goto_w, wq_if_eq, wq_if_ne, wq_if_lt, wq_if_ge, wq_if_gt, wq_if_le, wq_icmp_eq, wq_icmp_ne, wq_icmp_lt, wq_icmp_ge, wq_icmp_gt, wq_icmp_le, wp_max, wp_min, kI_inl, kR_some, kN_inl, kO_some, KT_none, KT_some, List.length_cons, List.length_nil, Nat.reduceAdd, Nat.reduceLT, Nat.reduceLeDiff, Nat.reduceMod, Nat.reduceDiv, true_and, and_true, Int.reduceLE, Int.reduceNeg, Int.reduceLT, Int.cast_ofNat_Int, Nat.zero_le, zI, Int.reduceAdd, Int.reduceSub, Int.reduceMul, not_true_eq_false, not_false_eq_true, false_implies, true_implies, i01_0, i01_1, ite_not, ↓reduceIte, zget_0, zget_1, zget_2, zget_3, zget_4, zget_5, zget_6, zget_7, zget_8, zget_9, zget_10, zset_0, zset_1, zset_2, zset_3, zset_4, zset_5, zset_6, zset_7, zset_8, zset_9, zset_10, k0, c_begin ht, c_length ht]
  clear k0
  grind (splits := 20)
def rt (im : zM) (z : zSS) (e : Int → Int) : zM := sth (setc im 164 e) 165 z
theorem zT_124 (h : zT t) : t + 4 ≤ 124 := by
  have h0 : zTl.all (fun t => decide (t + 4 ≤ 124)) = true := by decide +kernel
  exact of_decide_eq_true (List.all_eq_true.mp h0 t h)
theorem rt_ne {z : zSS} {e : Int → Int} {p : Nat} (h : p < 164 ∨ 170 < p) : rt im z e p = im p := by
  unfold rt
  rw [sth_ne _ _ (by omega), setc_ne _ _ (by omega)]
theorem rt_e {z : zSS} {e : Int → Int} : rt im z e 164 = e := by
  unfold rt
  rw [sth_ne _ _ (by omega), setc_at]
theorem rt_g {z : zSS} {e : Int → Int} : gsh (rt im z e) 165 = z := gsh_sth _ _ _
theorem rt_sth {z y : zSS} {e : Int → Int} : sth (rt im z e) 165 y = rt im y e := sth_sth _ _ _ _
theorem rt_setc {z : zSS} {e e' : Int → Int} : setc (rt im z e) 164 e' = rt im z e' := by
  funext p
  by_cases h : p = 164
  · rw [h, setc_at, rt_e]
  · rw [setc_ne _ _ h]
    unfold rt sth
    by_cases h1 : p < 165 ∨ 170 < p
    · simp (disch := omega) only [setc_ne]
    · have hp : p = 165 ∨ p = 166 ∨ p = 167 ∨ p = 168 ∨ p = 169 ∨ p = 170 := by omega
      rcases hp with e | e | e | e | e | e <;> rw [e] <;> simp (disch := omega) only [setc_ne, setc_at, Nat.reduceAdd]
end RO
