/-! THE CLASS'S TREE: plugging, turning off, refusing, copying -/
section TX
variable {d t u : Nat} {im : zM} {Q : Option zV → zM → Prop} {a b v dv kd sl ty : Int}
def plgc (c : Int → Int) (e ty a sl : Int) : Int → Int := clrf (ups (ups (ups c (e * 24) ty) (e * 24 + 1) a) (e * 24 + 2) sl) e
theorem c_plug (ht : zT t) (hd : 0 ≤ dv ∧ dv < 20) : CallP (d + 9) 70 [.inr (some t), .inl dv, .inl ty, .inl a, .inl sl] im Q ↔ Q none (stw (setc im (t + 1) (plgc (im (t + 1)) dv ty a sl)) t (wkb (plgc (im (t + 1)) dv ty a sl) 5 (-1) (im (t + 3), 0))) := by
  have k0 := (zT_k ht).1
  have k1 := (zT_k ht).2.1
  have k2 := (zT_k ht).2.2.1
  have k3 := (zT_k ht).2.2.2.1
  have k4 := (zT_k ht).2.2.2.2
  have r0 := (zT_r0 _ ht).1
  have r1 := (zT_r0 _ ht).2.1
  have r2 := (zT_r0 _ ht).2.2.1
  have r3 := (zT_r0 _ ht).2.2.2
  have e1 : ∀ c : Int → Int, setc (setc im (t + 1) c) t (ups (setc im (t + 1) c t) 4 0) = stw (setc im (t + 1) c) t (im (t + 3), 0) := by
    intro c
    unfold stw
    dsimp only
    rw [show im (t + 3) = setc im (t + 1) c (t + 3) from (setc_ne _ _ (by omega)).symm, setc_self]
  have hw := fun (im : zM) (Q : Option zV → zM → Prop) => c_walkBus (d := d) ht (c := im (t + 1)) 5 (-1) 0 im Q (by omega) (by omega) rfl
  simp (disch := omega) only [en_70, wp_return rk_70, pg_70_0, cw_50, cw_71, cw_75, wp_iload, wp_aload, wp_istore, wp_astore, wp_iinc, wp_iconst, wp_dup, wp_dup2, wp_pop, wp_iadd, wp_isub, wp_imul, wp_idiv, wp_irem, wp_ineg, wp_iand, wp_ior, wp_ixor, wp_ishl, wp_ishr, wp_getI, wp_putI, wp_getR, wp_goto, wp_goto_w, wq_if_eq, wq_if_ne, wq_if_lt, wq_if_ge, wq_if_gt, wq_if_le, wq_icmp_eq, wq_icmp_ne, wq_icmp_lt, wq_icmp_ge, wq_icmp_gt, wq_icmp_le, wp_max, wp_min, kI_inl, kR_some, kN_inl, kO_some, KT_none, KT_some, List.length_cons, List.length_nil, Nat.reduceAdd, Nat.reduceLT, Nat.reduceLeDiff, Nat.reduceMod, Nat.reduceDiv, true_and, and_true, Int.reduceLE, Int.reduceNeg, Int.reduceLT, Int.cast_ofNat_Int, Nat.zero_le, zI, Int.reduceAdd, Int.reduceSub, Int.reduceMul, not_true_eq_false, not_false_eq_true, false_implies, true_implies, i01_0, i01_1, ite_not, ↓reduceIte, zget_0, zget_1, zget_2, zget_3, zget_4, zget_5, zget_6, zget_7, zget_8, zget_9, zget_10, zset_0, zset_1, zset_2, zset_3, zset_4, zset_5, zset_6, zset_7, zset_8, zset_9, zset_10, k0, r0, r1, r2, r3, wp_iaload k1, wp_iaload k2, wp_iaload k3, wp_iaload k4, wp_iastore k1, wp_iastore k2, wp_iastore k3, wp_iastore k4, c_set ht, c_clearGiven ht, hd.1, hd.2, zu_setc, setc_at, setc_setc, e1, hw, stw_stw, stw_c, stw_w, stw_n, Int.add_zero, plgc]
def tof (dv : Int) (e : Int) (s : (Int → Int) × Int) : (Int → Int) × Int := if gt s.1 e 3 = 1 ∧ (e = dv ∨ bhB s.1 e dv = true) then (offf e s.1, s.2 + 1) else s
theorem l_turnOff (ht : zT t) : ∀ (n : Nat) (i s : Int) (im : zM), 0 ≤ i → i + n = 20 → 0 ≤ s → s ≤ i → ∀ Q, wp none (d + 2) 73 (zpg 73 4) [.inr (some t), .inl dv, .inl s, .inl i] [] im Q ↔ Q (some (.inl (lp (tof dv) n i (im (t + 1), s)).2)) (setc im (t + 1) (lp (tof dv) n i (im (t + 1), s)).1)
  | 0, i, s, im, h0, h1, h2, h3, Q => by
    have k0 := (zT_k ht).1
    have k1 := (zT_k ht).2.1
    have k2 := (zT_k ht).2.2.1
    have k3 := (zT_k ht).2.2.2.1
    have k4 := (zT_k ht).2.2.2.2
    have r0 := (zT_r0 _ ht).1
    have r1 := (zT_r0 _ ht).2.1
    have r2 := (zT_r0 _ ht).2.2.1
    have r3 := (zT_r0 _ ht).2.2.2
    rw [pg_73_4]
    simp only [en_73, wp_ireturn rk_73, pg_73_0, pg_73_32, pg_73_47, pg_73_53, cw_50, cw_54, cw_67, cw_75, wp_iload, wp_aload, wp_istore, wp_astore, wp_iinc, wp_iconst, wp_dup, wp_dup2, wp_pop, wp_iadd, wp_isub, wp_imul, wp_idiv, wp_irem, wp_ineg, wp_iand, wp_ior, wp_ixor, wp_ishl, wp_ishr, wp_getI, wp_putI, wp_getR, wp_goto, wp_goto_w, wq_if_eq, wq_if_ne, wq_if_lt, wq_if_ge, wq_if_gt, wq_if_le, wq_icmp_eq, wq_icmp_ne, wq_icmp_lt, wq_icmp_ge, wq_icmp_gt, wq_icmp_le, wp_max, wp_min, kI_inl, kR_some, kN_inl, kO_some, KT_none, KT_some, List.length_cons, List.length_nil, Nat.reduceAdd, Nat.reduceLT, Nat.reduceLeDiff, Nat.reduceMod, Nat.reduceDiv, true_and, and_true, Int.reduceLE, Int.reduceNeg, Int.reduceLT, Int.cast_ofNat_Int, Nat.zero_le, zI, Int.reduceAdd, Int.reduceSub, Int.reduceMul, not_true_eq_false, not_false_eq_true, false_implies, true_implies, i01_0, i01_1, ite_not, ↓reduceIte, zget_0, zget_1, zget_2, zget_3, zget_4, zget_5, zget_6, zget_7, zget_8, zget_9, zget_10, zset_0, zset_1, zset_2, zset_3, zset_4, zset_5, zset_6, zset_7, zset_8, zset_9, zset_10, k0, r0, r1, r2, r3, wp_iaload k1, wp_iaload k2, wp_iaload k3, wp_iaload k4, wp_iastore k1, wp_iastore k2, wp_iastore k3, wp_iastore k4, show (20 : Int) ≤ i by omega, lp, setc_self]
  | n + 1, i, s, im, h0, h1, h2, h3, Q => by
    have k0 := (zT_k ht).1
    have k1 := (zT_k ht).2.1
    have k2 := (zT_k ht).2.2.1
    have k3 := (zT_k ht).2.2.2.1
    have k4 := (zT_k ht).2.2.2.2
    have r0 := (zT_r0 _ ht).1
    have r1 := (zT_r0 _ ht).2.1
    have r2 := (zT_r0 _ ht).2.2.1
    have r3 := (zT_r0 _ ht).2.2.2
    have ih := l_turnOff ht n (i + 1)
    rw [pg_73_4]
    simp (disch := omega) only [en_73, wp_ireturn rk_73, pg_73_0, pg_73_32, pg_73_47, pg_73_53, cw_50, cw_54, cw_67, cw_75, wp_iload, wp_aload, wp_istore, wp_astore, wp_iinc, wp_iconst, wp_dup, wp_dup2, wp_pop, wp_iadd, wp_isub, wp_imul, wp_idiv, wp_irem, wp_ineg, wp_iand, wp_ior, wp_ixor, wp_ishl, wp_ishr, wp_getI, wp_putI, wp_getR, wp_goto, wp_goto_w, wq_if_eq, wq_if_ne, wq_if_lt, wq_if_ge, wq_if_gt, wq_if_le, wq_icmp_eq, wq_icmp_ne, wq_icmp_lt, wq_icmp_ge, wq_icmp_gt, wq_icmp_le, wp_max, wp_min, kI_inl, kR_some, kN_inl, kO_some, KT_none, KT_some, List.length_cons, List.length_nil, Nat.reduceAdd, Nat.reduceLT, Nat.reduceLeDiff, Nat.reduceMod, Nat.reduceDiv, true_and, and_true, Int.reduceLE, Int.reduceNeg, Int.reduceLT, Int.cast_ofNat_Int, Nat.zero_le, zI, Int.reduceAdd, Int.reduceSub, Int.reduceMul, not_true_eq_false, not_false_eq_true, false_implies, true_implies, i01_0, i01_1, ite_not, ↓reduceIte, zget_0, zget_1, zget_2, zget_3, zget_4, zget_5, zget_6, zget_7, zget_8, zget_9, zget_10, zset_0, zset_1, zset_2, zset_3, zset_4, zset_5, zset_6, zset_7, zset_8, zset_9, zset_10, k0, r0, r1, r2, r3, wp_iaload k1, wp_iaload k2, wp_iaload k3, wp_iaload k4, wp_iastore k1, wp_iastore k2, wp_iastore k3, wp_iastore k4, show ¬ (20 : Int) ≤ i by omega, h0, show i < 20 by omega, c_isOn ht, c_isBehind ht, c_set ht, c_clearGiven ht, zu_setc, setc_at, setc_setc, ih, lp]
    clear ih
    clear k0 k1 k2 k3 k4 r0 r1 r2 r3
    simp only [tof, offf]
    grind (splits := 20)
theorem c_turnOff (ht : zT t) : CallP (d + 2) 73 [.inr (some t), .inl dv] im Q ↔ Q (some (.inl (lp (tof dv) 20 0 (im (t + 1), 0)).2)) (setc im (t + 1) (lp (tof dv) 20 0 (im (t + 1), 0)).1) := by
  have k0 := (zT_k ht).1
  have k1 := (zT_k ht).2.1
  have k2 := (zT_k ht).2.2.1
  have k3 := (zT_k ht).2.2.2.1
  have k4 := (zT_k ht).2.2.2.2
  have r0 := (zT_r0 _ ht).1
  have r1 := (zT_r0 _ ht).2.1
  have r2 := (zT_r0 _ ht).2.2.1
  have r3 := (zT_r0 _ ht).2.2.2
  simp (disch := omega) only [en_73, wp_ireturn rk_73, pg_73_0, pg_73_32, pg_73_47, pg_73_53, cw_50, cw_54, cw_67, cw_75, wp_iload, wp_aload, wp_istore, wp_astore, wp_iinc, wp_iconst, wp_dup, wp_dup2, wp_pop, wp_iadd, wp_isub, wp_imul, wp_idiv, wp_irem, wp_ineg, wp_iand, wp_ior, wp_ixor, wp_ishl, wp_ishr, wp_getI, wp_putI, wp_getR, wp_goto, wp_goto_w, wq_if_eq, wq_if_ne, wq_if_lt, wq_if_ge, wq_if_gt, wq_if_le, wq_icmp_eq, wq_icmp_ne, wq_icmp_lt, wq_icmp_ge, wq_icmp_gt, wq_icmp_le, wp_max, wp_min, kI_inl, kR_some, kN_inl, kO_some, KT_none, KT_some, List.length_cons, List.length_nil, Nat.reduceAdd, Nat.reduceLT, Nat.reduceLeDiff, Nat.reduceMod, Nat.reduceDiv, true_and, and_true, Int.reduceLE, Int.reduceNeg, Int.reduceLT, Int.cast_ofNat_Int, Nat.zero_le, zI, Int.reduceAdd, Int.reduceSub, Int.reduceMul, not_true_eq_false, not_false_eq_true, false_implies, true_implies, i01_0, i01_1, ite_not, ↓reduceIte, zget_0, zget_1, zget_2, zget_3, zget_4, zget_5, zget_6, zget_7, zget_8, zget_9, zget_10, zset_0, zset_1, zset_2, zset_3, zset_4, zset_5, zset_6, zset_7, zset_8, zset_9, zset_10, k0, r0, r1, r2, r3, wp_iaload k1, wp_iaload k2, wp_iaload k3, wp_iaload k4, wp_iastore k1, wp_iastore k2, wp_iastore k3, wp_iastore k4, l_turnOff ht 20]
/-- the refused and how many -/
def str (im : zM) (t : Nat) (s : zWS) : zM := setc (setc im (t + 4) s.1) t (ups (im t) 5 s.2)
def rff (dv : Int) (s : zWS) : zWS := if 0 ≤ s.2 ∧ s.2 < 20 then (ups s.1 s.2 dv, s.2 + 1) else s
theorem c_refuse (ht : zT t) : CallP (d + 3) 79 [.inr (some t), .inl dv] im Q ↔ Q none (str (setc im (t + 1) (lp (tof dv) 20 0 (im (t + 1), 0)).1) t (rff dv (im (t + 4), im t 5))) := by
  have k0 := (zT_k ht).1
  have k1 := (zT_k ht).2.1
  have k2 := (zT_k ht).2.2.1
  have k3 := (zT_k ht).2.2.2.1
  have k4 := (zT_k ht).2.2.2.2
  have r0 := (zT_r0 _ ht).1
  have r1 := (zT_r0 _ ht).2.1
  have r2 := (zT_r0 _ ht).2.2.1
  have r3 := (zT_r0 _ ht).2.2.2
  have e2 : ∀ c : Int → Int, str (setc im (t + 1) c) t (im (t + 4), im t 5) = setc im (t + 1) c := by
    intro c
    unfold str
    dsimp only
    rw [show im (t + 4) = setc im (t + 1) c (t + 4) from (setc_ne _ _ (by omega)).symm, setc_self, show ups (setc im (t + 1) c t) 5 (im t 5) = setc im (t + 1) c t from by
      funext j
      unfold ups
      rw [setc_ne _ _ (by omega)]
      split <;> simp_all, setc_self]
  simp (disch := omega) only [en_79, wp_return rk_79, pg_79_0, pg_79_42, cw_73, wp_iload, wp_aload, wp_istore, wp_astore, wp_iinc, wp_iconst, wp_dup, wp_dup2, wp_pop, wp_iadd, wp_isub, wp_imul, wp_idiv, wp_irem, wp_ineg, wp_iand, wp_ior, wp_ixor, wp_ishl, wp_ishr, wp_getI, wp_putI, wp_getR, wp_goto, wp_goto_w, wq_if_eq, wq_if_ne, wq_if_lt, wq_if_ge, wq_if_gt, wq_if_le, wq_icmp_eq, wq_icmp_ne, wq_icmp_lt, wq_icmp_ge, wq_icmp_gt, wq_icmp_le, wp_max, wp_min, kI_inl, kR_some, kN_inl, kO_some, KT_none, KT_some, List.length_cons, List.length_nil, Nat.reduceAdd, Nat.reduceLT, Nat.reduceLeDiff, Nat.reduceMod, Nat.reduceDiv, true_and, and_true, Int.reduceLE, Int.reduceNeg, Int.reduceLT, Int.cast_ofNat_Int, Nat.zero_le, zI, Int.reduceAdd, Int.reduceSub, Int.reduceMul, not_true_eq_false, not_false_eq_true, false_implies, true_implies, i01_0, i01_1, ite_not, ↓reduceIte, zget_0, zget_1, zget_2, zget_3, zget_4, zget_5, zget_6, zget_7, zget_8, zget_9, zget_10, zset_0, zset_1, zset_2, zset_3, zset_4, zset_5, zset_6, zset_7, zset_8, zset_9, zset_10, k0, r0, r1, r2, r3, wp_iaload k1, wp_iaload k2, wp_iaload k3, wp_iaload k4, wp_iastore k1, wp_iastore k2, wp_iastore k3, wp_iastore k4, c_turnOff ht, zu_setc, setc_ne]
  simp only [rff]
  by_cases hr : 0 ≤ im t 5 ∧ im t 5 < 20
  · rw [if_pos hr]
    have g1 : ¬ im t 5 < 0 := by omega
    have g2 : ¬ 20 ≤ im t 5 := by omega
    simp only [g1, g2, if_false, hr.1, hr.2, and_self, true_and]
    unfold str
    dsimp only
    rw [setc_ne _ _ (show t ≠ t + 1 by omega)]
    clear e2
    clear k0 k1 k2 k3 k4 r0 r1 r2 r3
    exact ⟨fun h => h.2, fun h => ⟨⟨by omega, by omega⟩, h⟩⟩
  · rw [if_neg hr, e2]
    by_cases g1 : im t 5 < 0
    · simp only [g1, if_true]
    · simp only [g1, if_false, show 20 ≤ im t 5 by omega, if_true]
/-- the first n of another row -/
def cpa (n : Int) (c e : Int → Int) : Int → Int := fun j => if 0 ≤ j ∧ j < n then e j else c j
theorem zcp_cpa (im : zM) (o q : Nat) (n : Int) : zcp im o 0 q 0 n = setc im q (cpa n (im q) (im o)) := by
  funext p
  unfold zcp setc cpa
  split
  · funext j
    simp
  · rfl
def cpt (im : zM) (t u : Nat) : zM := setc (setc (setc (setc (setc im (t + 1) (cpa 480 (im (t + 1)) (im (u + 1)))) (t + 2) (cpa 2 (im (t + 2)) (im (u + 2)))) (t + 3) (cpa 20 (im (t + 3)) (im (u + 3)))) (t + 4) (cpa 20 (im (t + 4)) (im (u + 4)))) t (ups (ups (im t) 4 (im u 4)) 5 (im u 5))
theorem zT_apart {t u : Nat} (ht : zT t) (hu : zT u) (h : t ≠ u) : t + 5 ≤ u ∨ u + 5 ≤ t := by
  have h0 : zTl.all (fun t => zTl.all (fun u => decide (t = u) || (decide (t + 5 ≤ u) || decide (u + 5 ≤ t)))) = true := by decide +kernel
  have h1 := List.all_eq_true.mp (List.all_eq_true.mp h0 t ht) u hu
  simp only [Bool.or_eq_true, decide_eq_true_eq] at h1
  exact h1.resolve_left h
theorem c_copy (ht : zT t) (hu : zT u) (h : t ≠ u) : CallP d 48 [.inr (some t), .inr (some u)] im Q ↔ Q none (cpt im t u) := by
  have k0 := (zT_k ht).1
  have k1 := (zT_k ht).2.1
  have k2 := (zT_k ht).2.2.1
  have k3 := (zT_k ht).2.2.2.1
  have k4 := (zT_k ht).2.2.2.2
  have r0 := (zT_r0 _ ht).1
  have r1 := (zT_r0 _ ht).2.1
  have r2 := (zT_r0 _ ht).2.2.1
  have r3 := (zT_r0 _ ht).2.2.2
  have j0 := (zT_k hu).1
  have j1 := (zT_k hu).2.1
  have j2 := (zT_k hu).2.2.1
  have j3 := (zT_k hu).2.2.2.1
  have j4 := (zT_k hu).2.2.2.2
  have q0 := (zT_r0 _ hu).1
  have q1 := (zT_r0 _ hu).2.1
  have q2 := (zT_r0 _ hu).2.2.1
  have q3 := (zT_r0 _ hu).2.2.2
  have ap := zT_apart ht hu h
  simp (disch := omega) only [en_48, wp_return rk_48, pg_48_0, wp_iload, wp_aload, wp_istore, wp_astore, wp_iinc, wp_iconst, wp_dup, wp_dup2, wp_pop, wp_iadd, wp_isub, wp_imul, wp_idiv, wp_irem, wp_ineg, wp_iand, wp_ior, wp_ixor, wp_ishl, wp_ishr, wp_getI, wp_putI, wp_getR, wp_goto, wp_goto_w, wq_if_eq, wq_if_ne, wq_if_lt, wq_if_ge, wq_if_gt, wq_if_le, wq_icmp_eq, wq_icmp_ne, wq_icmp_lt, wq_icmp_ge, wq_icmp_gt, wq_icmp_le, wp_max, wp_min, kI_inl, kR_some, kN_inl, kO_some, KT_none, KT_some, List.length_cons, List.length_nil, Nat.reduceAdd, Nat.reduceLT, Nat.reduceLeDiff, Nat.reduceMod, Nat.reduceDiv, true_and, and_true, Int.reduceLE, Int.reduceNeg, Int.reduceLT, Int.cast_ofNat_Int, Nat.zero_le, zI, Int.reduceAdd, Int.reduceSub, Int.reduceMul, not_true_eq_false, not_false_eq_true, false_implies, true_implies, i01_0, i01_1, ite_not, ↓reduceIte, zget_0, zget_1, zget_2, zget_3, zget_4, zget_5, zget_6, zget_7, zget_8, zget_9, zget_10, zset_0, zset_1, zset_2, zset_3, zset_4, zset_5, zset_6, zset_7, zset_8, zset_9, zset_10, k0, r0, r1, r2, r3, wp_iaload k1, wp_iaload k2, wp_iaload k3, wp_iaload k4, wp_iastore k1, wp_iastore k2, wp_iastore k3, wp_iastore k4, j0, q0, q1, q2, q3, wp_copy j1 k1, wp_copy j2 k2, wp_copy j3 k3, wp_copy j4 k4, zcp_cpa, zu_setc, setc_ne, setc_at, setc_setc]
  simp (disch := omega) only [cpt, setc_ne]
end TX
