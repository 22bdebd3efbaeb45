/-! THE CLASS'S POWER-UP: refusing -/
section PF
variable {d s t u o : Nat} {im : zM} {Q : Option zV → zM → Prop} {a b v dv kd sl i j k f : Int}
theorem mt2_congr {x x' : zM} {c : Int → Int} {z : zSS} {p : Nat} (h : x p = x' p) (h2 : x 132 = x' 132) : mt2 x t c z p = mt2 x' t c z p := by
  simp only [mt2, sth, setc, h, h2]
theorem str_ne (im : zM) {t p : Nat} (r : zWS) (h : p ≠ t) (h1 : p ≠ t + 4) : str im t r p = im p := by
  unfold str
  rw [setc_ne _ _ h, setc_ne _ _ h1]
theorem str_t (im : zM) (t : Nat) (r : zWS) : str im t r t = ups (im t) 5 r.2 := by
  unfold str
  rw [setc_at]
theorem str_4 (im : zM) (t : Nat) (r : zWS) : str im t r (t + 4) = r.1 := by
  unfold str
  rw [setc_ne _ _ (by omega), setc_at]
theorem str_mt2 (ht : zT t) (c : Int → Int) (z : zSS) (r r' : zWS) : str (mt2 (str im t r) t c z) t r' = mt2 (str im t r') t c z := by
  have ap := zT_lt ht
  funext p
  by_cases h : p = t
  · rw [h, str_t, mt2_ne ht _ _ (by omega) (by omega), mt2_ne ht _ _ (by omega) (by omega), str_t, str_t, ups_ups]
  · by_cases h4 : p = t + 4
    · rw [h4, str_4, mt2_ne ht _ _ (by omega) (by omega), str_4]
    · rw [str_ne _ _ h h4]
      exact mt2_congr (by rw [str_ne _ _ h h4, str_ne _ _ h h4]) (by rw [str_ne _ _ (by omega) (by omega), str_ne _ _ (by omega) (by omega)])
abbrev zPS : Type := ((Int → Int) × zSS) × zWS
def mt3 (im : zM) (t : Nat) (S : zPS) : zM := mt2 (str im t S.2) t S.1.1 S.1.2
def whoS (c w : Int → Int) (n k : Int) : Int := if (lp (muf c w n k 1) n.toNat 0 (-1, 0)).1 = -1 then (lp (mlf c w n) n.toNat 0 (-1, -1)).1 else (lp (muf c w n k 1) n.toNat 0 (-1, 0)).1
def rfd (w : Int → Int) (n k : Int) (S : zPS) : zPS := (((lp (tof (whoS S.1.1 w n k)) 20 0 (S.1.1, 0)).1, S.1.2), rff (whoS S.1.1 w n k) S.2)
theorem mt3_t (ht : zT t) (S : zPS) : mt3 im t S t = ups (im t) 5 S.2.2 := by
  have ap := zT_lt ht
  unfold mt3
  rw [mt2_ne ht _ _ (by omega) (by omega), str_t]
theorem mt3_n (ht : zT t) (S : zPS) : mt3 im t S t 4 = im t 4 := by
  rw [mt3_t ht, ups_ne _ _ (by omega)]
theorem mt3_w (ht : zT t) (S : zPS) : mt3 im t S (t + 3) = im (t + 3) := by
  have ap := zT_lt ht
  unfold mt3
  rw [mt2_ne ht _ _ (by omega) (by omega), str_ne _ _ (by omega) (by omega)]
theorem mt3_s (ht : zT t) (S : zPS) : mt3 im t S (t + 2) = im (t + 2) := by
  have ap := zT_lt ht
  unfold mt3
  rw [mt2_ne ht _ _ (by omega) (by omega), str_ne _ _ (by omega) (by omega)]
theorem mt3_4 (ht : zT t) (S : zPS) : mt3 im t S (t + 4) = S.2.1 := by
  have ap := zT_lt ht
  unfold mt3
  rw [mt2_ne ht _ _ (by omega) (by omega), str_4]
theorem mt3_c (ht : zT t) (S : zPS) : mt3 im t S (t + 1) = S.1.1 := mt2_c ht _ _
theorem c_refuse3 (ht : zT t) {S : zPS} : CallP (d + 3) 79 [.inr (some t), .inl dv] (mt3 im t S) Q ↔ Q none (mt3 im t (((lp (tof dv) 20 0 (S.1.1, 0)).1, S.1.2), rff dv S.2)) := by
  rw [c_refuse ht, mt3_c ht, mt3_4 ht, mt3_t ht, ups_at]
  unfold mt3
  rw [mt2_setc ht, str_mt2 ht]
theorem l_60 (ht : zT t) {w : Int → Int} {n r : Int} {x4 : zV} {S : zPS} (hW : im (t + 3) = w) (hN : im t 4 = n) (hn : n ≤ 20) (hr : 0 ≤ r ∧ r < 100) (hb : TB S.1.1) (Q) : ∃ x4', (wp none (d + 6) 19 (zpg 19 60) [.inr (some 131), .inr (some t), .inl r, .inl k, x4] [] (mt3 im t S) Q ↔ wp none (d + 6) 19 (zpg 19 19) [.inr (some 131), .inr (some t), .inl (r + 1), .inl k, x4'] [] (mt3 im t (rfd w n k S)) Q) := by
  refine ⟨.inl (lp (muf S.1.1 w n k 1) n.toNat 0 (-1, 0)).1, ?_⟩
  have k0 := (zT_k ht).1
  have m4 := fun S => mt3_n (im := im) ht S
  have m3 := fun S => mt3_w (im := im) ht S
  have hmu := fun Q => c_mostUnits (d := d + 3) (im := mt3 im t S) (Q := Q) (kd := k) (oo := 1) ht (by rw [mt3_c ht]; exact hb) (by rw [m4, hN]; exact hn)
  have hml := fun Q => c_mostLeft (d := d + 3) (im := mt3 im t S) (Q := Q) ht (by rw [m4, hN]; exact hn)
  simp only [m4, m3, mt3_c ht, hW, hN] at hmu hml
  conv => lhs; rw [pg_19_60]
  by_cases hg : (lp (muf S.1.1 w n k 1) n.toNat 0 (-1, 0)).1 = -1
  · have e : rfd w n k S = (((lp (tof (lp (mlf S.1.1 w n) n.toNat 0 (-1, -1)).1) 20 0 (S.1.1, 0)).1, S.1.2), rff (lp (mlf S.1.1 w n) n.toNat 0 (-1, -1)).1 S.2) := by
      simp only [rfd, whoS, hg, if_true]
    rw [e]
    simp (disch := omega) only [cw_77, cw_78, cw_79, pg_19_80, pg_19_84, wp_iload, wp_aload, wp_istore, wp_astore, wp_iinc, wp_iconst, wp_dup, wp_dup2, wp_pop, wp_iadd, wp_isub, wp_imul, wp_idiv, wp_irem, wp_ineg, wp_iand, wp_ior, wp_ixor, wp_ishl, wp_ishr, wp_getI, wp_putI, wp_getR, wp_goto, wp_goto_w, wq_if_eq, wq_if_ne, wq_if_lt, wq_if_ge, wq_if_gt, wq_if_le, wq_icmp_eq, wq_icmp_ne, wq_icmp_lt, wq_icmp_ge, wq_icmp_gt, wq_icmp_le, wp_max, wp_min, kI_inl, kR_some, kN_inl, kO_some, KT_none, KT_some, List.length_cons, List.length_nil, Nat.reduceAdd, Nat.reduceLT, Nat.reduceLeDiff, Nat.reduceMod, Nat.reduceDiv, true_and, and_true, Int.reduceLE, Int.reduceNeg, Int.reduceLT, Int.cast_ofNat_Int, Nat.zero_le, zI, Int.reduceAdd, Int.reduceSub, Int.reduceMul, not_true_eq_false, not_false_eq_true, false_implies, true_implies, i01_0, i01_1, ite_not, ↓reduceIte, zget_0, zget_1, zget_2, zget_3, zget_4, zget_5, zget_6, zget_7, zget_8, zget_9, zget_10, zset_0, zset_1, zset_2, zset_3, zset_4, zset_5, zset_6, zset_7, zset_8, zset_9, zset_10, k0, hmu, hml, hg, c_refuse3 ht, if_true]
    refine (and_iff_right (by omega)).trans ?_
    exact Iff.rfl
  · have e : rfd w n k S = (((lp (tof (lp (muf S.1.1 w n k 1) n.toNat 0 (-1, 0)).1) 20 0 (S.1.1, 0)).1, S.1.2), rff (lp (muf S.1.1 w n k 1) n.toNat 0 (-1, 0)).1 S.2) := by
      simp only [rfd, whoS, hg, if_false]
    rw [e]
    simp (disch := omega) only [cw_77, cw_78, cw_79, pg_19_80, pg_19_84, wp_iload, wp_aload, wp_istore, wp_astore, wp_iinc, wp_iconst, wp_dup, wp_dup2, wp_pop, wp_iadd, wp_isub, wp_imul, wp_idiv, wp_irem, wp_ineg, wp_iand, wp_ior, wp_ixor, wp_ishl, wp_ishr, wp_getI, wp_putI, wp_getR, wp_goto, wp_goto_w, wq_if_eq, wq_if_ne, wq_if_lt, wq_if_ge, wq_if_gt, wq_if_le, wq_icmp_eq, wq_icmp_ne, wq_icmp_lt, wq_icmp_ge, wq_icmp_gt, wq_icmp_le, wp_max, wp_min, kI_inl, kR_some, kN_inl, kO_some, KT_none, KT_some, List.length_cons, List.length_nil, Nat.reduceAdd, Nat.reduceLT, Nat.reduceLeDiff, Nat.reduceMod, Nat.reduceDiv, true_and, and_true, Int.reduceLE, Int.reduceNeg, Int.reduceLT, Int.cast_ofNat_Int, Nat.zero_le, zI, Int.reduceAdd, Int.reduceSub, Int.reduceMul, not_true_eq_false, not_false_eq_true, false_implies, true_implies, i01_0, i01_1, ite_not, ↓reduceIte, zget_0, zget_1, zget_2, zget_3, zget_4, zget_5, zget_6, zget_7, zget_8, zget_9, zget_10, zset_0, zset_1, zset_2, zset_3, zset_4, zset_5, zset_6, zset_7, zset_8, zset_9, zset_10, k0, hmu, hml, hg, c_refuse3 ht, if_false]
    refine (and_iff_right (by omega)).trans ?_
    exact Iff.rfl
end PF
