/-! THE REFERENCE: POWER-UP in full -/
section MR5
variable {d : Nat} {im : zM} {Q : Option zV → zM → Prop} {a b v dv kd sl i j k f e bu t o : Int}
theorem lym_out {X : zM} {r : zLy} {c : Int → Int} : setc (lym X r) 172 c = lym (setc X 172 c) r := by
  unfold lym
  rw [setc_comm _ _ c (show (171 : Nat) ≠ 172 by omega), setc_comm _ _ c (show (179 : Nat) ≠ 172 by omega), setc_comm _ _ c (show (178 : Nat) ≠ 172 by omega), setc_comm _ _ c (show (177 : Nat) ≠ 172 by omega), setc_comm _ _ c (show (176 : Nat) ≠ 172 by omega), setc_comm _ _ c (show (175 : Nat) ≠ 172 by omega), setc_comm _ _ c (show (174 : Nat) ≠ 172 by omega), setc_ne X _ (show (171 : Nat) ≠ 172 by omega)]
def pwm (X : zM) (A : Int → Int) (r : zLy) : zM := lym (setc X 172 A) r
theorem pwm_A {X : zM} {A : Int → Int} {r : zLy} : pwm X A r 172 = A := by
  unfold pwm
  rw [lym_A, setc_at]
theorem pwm_sA {X : zM} {A A' : Int → Int} {r : zLy} : setc (pwm X A r) 172 A' = pwm X A' r := by
  unfold pwm
  rw [lym_out, setc_setc]
theorem pwm_N {X : zM} {A : Int → Int} {r : zLy} : pwm X A r 174 = r.1 := lym_N
theorem pwm_o {X : zM} {A : Int → Int} {r : zLy} {p : Nat} (h : p < 171 ∨ p = 173 ∨ 179 < p) : pwm X A r p = X p := by
  unfold pwm
  rw [lym_o (by omega), setc_ne _ _ (by omega)]
theorem pwm_f {X : zM} {A : Int → Int} {r : zLy} (h : f ≠ 9) : pwm X A r 171 f = X 171 f := by
  unfold pwm
  rw [lym_f h, setc_ne _ _ (by omega)]
theorem pwm_self (X : zM) : pwm X (X 172) (lyg X) = X := by
  unfold pwm
  rw [setc_self, lym_self]
abbrev zPw : Type := (Int → Int) × (Int → Bool) × zLy
def pwA (A : Int → Int) (D : Int) : Int → Int := ups (ups A (463 + A 462) D) 462 (A 462 + 1)
def pwB (A : Int → Int) (on : Int → Bool) (D : Int) : Int → Bool := fun i => on i && !wbB (pwA A D) D i
def pwS (o : Int → Int) (N : Int) : Nat → zPw → zPw
  | 0, y => y
  | n + 1, y => if tmM y.1 y.2.2.1 < 0 then y else pwS o N n (pwA y.1 (trM y.1 o N y.2.1 (tmM y.1 y.2.2.1)), pwB y.1 y.2.1 (trM y.1 o N y.2.1 (tmM y.1 y.2.2.1)), lnN (pwA y.1 (trM y.1 o N y.2.1 (tmM y.1 y.2.2.1))) (pwB y.1 y.2.1 (trM y.1 o N y.2.1 (tmM y.1 y.2.2.1))) y.2.2)
/-- needs can be laid -/
def NdP (A : Int → Int) (on : Int → Bool) (r : zLy) : Prop := MG A ∧ MU A ∧ (∀ e, 0 ≤ e → e < 20 → on e = true → thM A e) ∧ LnP A on 0 r ∧ LnP A on 1 (lnK A on 0 r)
/-- refusing goes well -/
def PwP (o : Int → Int) (N : Int) : Nat → zPw → Prop
  | 0, y => tmM y.1 y.2.2.1 < 0
  | n + 1, y => ¬ tmM y.1 y.2.2.1 < 0 → MG y.1 ∧ (0 ≤ trM y.1 o N y.2.1 (tmM y.1 y.2.2.1) ∧ trM y.1 o N y.2.1 (tmM y.1 y.2.2.1) < 20) ∧ (0 ≤ y.1 462 ∧ y.1 462 < 20) ∧ NdP (pwA y.1 (trM y.1 o N y.2.1 (tmM y.1 y.2.2.1))) (pwB y.1 y.2.1 (trM y.1 o N y.2.1 (tmM y.1 y.2.2.1))) y.2.2 ∧ PwP o N n (pwA y.1 (trM y.1 o N y.2.1 (tmM y.1 y.2.2.1)), pwB y.1 y.2.1 (trM y.1 o N y.2.1 (tmM y.1 y.2.2.1)), lnN (pwA y.1 (trM y.1 o N y.2.1 (tmM y.1 y.2.2.1))) (pwB y.1 y.2.1 (trM y.1 o N y.2.1 (tmM y.1 y.2.2.1))) y.2.2)
theorem l_pw {X : zM} {o : Int → Int} {N : Int} (hN : X 171 2 = N) (ho : X 173 = o) (hth : ∀ j : Int, 0 ≤ j → j < N → 0 ≤ o j ∧ o j < 20) (hN2 : 0 ≤ N ∧ N ≤ 20) : ∀ (n : Nat) (y : zPw) (x3 : zV), PwP o N n y → ∃ x3', ∀ Q, wp none (d + 5) 187 (zpg 187 51) [.inr (some 171), .inl (bs y.2.1), .inl (tmM y.1 y.2.2.1), x3] [] (pwm X y.1 y.2.2) Q ↔ wp none (d + 5) 187 (zpg 187 115) [.inr (some 171), .inl (bs (pwS o N n y).2.1), .inl (-1), x3'] [] (pwm X (pwS o N n y).1 (pwS o N n y).2.2) Q := by
  intro n
  have tm1 : ∀ A Nn, tmM A Nn < 0 → tmM A Nn = -1 := by
    intro A Nn h
    unfold tmM at h ⊢
    split at h
    · omega
    · split at h
      · omega
      · rename_i h1 h2
        rw [if_neg h1, if_neg h2]
  induction n with
  | zero =>
    intro y x3 hp
    have hp' : tmM y.1 y.2.2.1 < 0 := hp
    refine ⟨x3, fun Q => ?_⟩
    have h1 := tm1 _ _ hp'
    rw [h1]
    conv => lhs; rw [pg_187_51]
    simp (disch := omega) only [wp_iload, wp_aload, wp_istore, wp_astore, wp_iinc, wp_iconst, wp_dup, wp_dup2, wp_pop, wp_iadd, wp_isub, wp_imul, wp_idiv, wp_irem, wp_ineg, wp_iand, wp_ior, wp_ixor, wp_ishl, wp_ishr, wp_getI, wp_putI, wp_getR, wp_goto, wp_goto_w, wq_if_eq, wq_if_ne, wq_if_lt, wq_if_ge, wq_if_gt, wq_if_le, wq_icmp_eq, wq_icmp_ne, wq_icmp_lt, wq_icmp_ge, wq_icmp_gt, wq_icmp_le, wp_max, wp_min, kI_inl, kR_some, kN_inl, kO_some, KT_none, KT_some, List.length_cons, List.length_nil, Nat.reduceAdd, Nat.reduceLT, Nat.reduceLeDiff, Nat.reduceMod, Nat.reduceDiv, true_and, and_true, Int.reduceLE, Int.reduceNeg, Int.reduceLT, Int.cast_ofNat_Int, Nat.zero_le, zI, Int.reduceAdd, Int.reduceSub, Int.reduceMul, not_true_eq_false, not_false_eq_true, false_implies, true_implies, i01_0, i01_1, ite_not, ↓reduceIte, zget_0, zget_1, zget_2, zget_3, zget_4, zget_5, zget_6, zget_7, zget_8, zget_9, zget_10, zset_0, zset_1, zset_2, zset_3, zset_4, zset_5, zset_6, zset_7, zset_8, zset_9, zset_10, pwS]
  | succ n ih =>
    intro y x3 hp
    by_cases c : tmM y.1 y.2.2.1 < 0
    · have ec : pwS o N (n + 1) y = y := if_pos c
      rw [ec]
      refine ⟨x3, fun Q => ?_⟩
      have h1 := tm1 _ _ c
      rw [h1]
      conv => lhs; rw [pg_187_51]
      simp (disch := omega) only [wp_iload, wp_aload, wp_istore, wp_astore, wp_iinc, wp_iconst, wp_dup, wp_dup2, wp_pop, wp_iadd, wp_isub, wp_imul, wp_idiv, wp_irem, wp_ineg, wp_iand, wp_ior, wp_ixor, wp_ishl, wp_ishr, wp_getI, wp_putI, wp_getR, wp_goto, wp_goto_w, wq_if_eq, wq_if_ne, wq_if_lt, wq_if_ge, wq_if_gt, wq_if_le, wq_icmp_eq, wq_icmp_ne, wq_icmp_lt, wq_icmp_ge, wq_icmp_gt, wq_icmp_le, wp_max, wp_min, kI_inl, kR_some, kN_inl, kO_some, KT_none, KT_some, List.length_cons, List.length_nil, Nat.reduceAdd, Nat.reduceLT, Nat.reduceLeDiff, Nat.reduceMod, Nat.reduceDiv, true_and, and_true, Int.reduceLE, Int.reduceNeg, Int.reduceLT, Int.cast_ofNat_Int, Nat.zero_le, zI, Int.reduceAdd, Int.reduceSub, Int.reduceMul, not_true_eq_false, not_false_eq_true, false_implies, true_implies, i01_0, i01_1, ite_not, ↓reduceIte, zget_0, zget_1, zget_2, zget_3, zget_4, zget_5, zget_6, zget_7, zget_8, zget_9, zget_10, zset_0, zset_1, zset_2, zset_3, zset_4, zset_5, zset_6, zset_7, zset_8, zset_9, zset_10]
    · obtain ⟨hg, hD, h462, hnd, hpn⟩ := hp c
      have ec : pwS o N (n + 1) y = pwS o N n (pwA y.1 (trM y.1 o N y.2.1 (tmM y.1 y.2.2.1)), pwB y.1 y.2.1 (trM y.1 o N y.2.1 (tmM y.1 y.2.2.1)), lnN (pwA y.1 (trM y.1 o N y.2.1 (tmM y.1 y.2.2.1))) (pwB y.1 y.2.1 (trM y.1 o N y.2.1 (tmM y.1 y.2.2.1))) y.2.2) := if_neg c
      have htr := fun Q => c_toRefuse (d := d + 2) (X := pwm X y.1 y.2.2) (A := y.1) (k := tmM y.1 y.2.2.1) (Q := Q) pwm_A hg (o := o) (N := N) (by rw [pwm_f (by omega)]; exact hN) (by rw [pwm_o (by omega)]; exact ho) hth hN2 (on := y.2.1)
      rw [ec]
      generalize trM y.1 o N y.2.1 (tmM y.1 y.2.2.1) = D at *
      obtain ⟨n1, n2, n3, n4, n5⟩ := hnd
      obtain ⟨x3', ih⟩ := ih (pwA y.1 D, pwB y.1 y.2.1 D, lnN (pwA y.1 D) (pwB y.1 y.2.1 D) y.2.2) (.inl D) hpn
      refine ⟨x3', fun Q => ?_⟩
      rw [← ih Q]
      have hwb := fun Q => c_withBehind (d := d + 2) (im := pwm X (pwA y.1 D) y.2.2) (dv := D) (Q := Q) (by rw [pwm_A]; exact n2) hD
      rw [pwm_A] at hwb
      have hln := fun Q => c_layNeeds (d := d) (X := setc X 172 (pwA y.1 D)) (A := pwA y.1 D) (Q := Q) (setc_at _ _ _) n1 n2 (on := pwB y.1 y.2.1 D) n3 (r := y.2.2) n4 n5
      have hln' : ∀ Q, CallP (d + 4) 181 [.inr (some 171), .inl (bs (pwB y.1 y.2.1 D))] (pwm X (pwA y.1 D) y.2.2) Q ↔ Q none (pwm X (pwA y.1 D) (lnN (pwA y.1 D) (pwB y.1 y.2.1 D) y.2.2)) := hln
      have htm := fun A r Q => c_tooMuch (d := d + 3) (im := pwm X A r) (Q := Q)
      simp only [pwm_A, pwm_N] at htm
      have eb : zand (bs y.2.1) (zxor (bs (wbB (pwA y.1 D) D)) (-1)) = bs (pwB y.1 y.2.1 D) := bs_diff
      have eA : ups (ups y.1 (463 + y.1 462) D) 462 (ups y.1 (463 + y.1 462) D 462 + 1) = pwA y.1 D := by
        unfold pwA
        rw [ups_ne y.1 _ (show (462 : Int) ≠ 463 + y.1 462 by omega)]
      have e462 : ups y.1 (463 + y.1 462) D 462 = y.1 462 := ups_ne _ _ (by omega)
      conv => lhs; rw [pg_187_51]
      simp (disch := omega) only [cw_185, cw_167, cw_181, cw_186, wp_iload, wp_aload, wp_istore, wp_astore, wp_iinc, wp_iconst, wp_dup, wp_dup2, wp_pop, wp_iadd, wp_isub, wp_imul, wp_idiv, wp_irem, wp_ineg, wp_iand, wp_ior, wp_ixor, wp_ishl, wp_ishr, wp_getI, wp_putI, wp_getR, wp_goto, wp_goto_w, wq_if_eq, wq_if_ne, wq_if_lt, wq_if_ge, wq_if_gt, wq_if_le, wq_icmp_eq, wq_icmp_ne, wq_icmp_lt, wq_icmp_ge, wq_icmp_gt, wq_icmp_le, wp_max, wp_min, kI_inl, kR_some, kN_inl, kO_some, KT_none, KT_some, List.length_cons, List.length_nil, Nat.reduceAdd, Nat.reduceLT, Nat.reduceLeDiff, Nat.reduceMod, Nat.reduceDiv, true_and, and_true, Int.reduceLE, Int.reduceNeg, Int.reduceLT, Int.cast_ofNat_Int, Nat.zero_le, zI, Int.reduceAdd, Int.reduceSub, Int.reduceMul, not_true_eq_false, not_false_eq_true, false_implies, true_implies, i01_0, i01_1, ite_not, ↓reduceIte, zget_0, zget_1, zget_2, zget_3, zget_4, zget_5, zget_6, zget_7, zget_8, zget_9, zget_10, zset_0, zset_1, zset_2, zset_3, zset_4, zset_5, zset_6, zset_7, zset_8, zset_9, zset_10, kd_171, rf_171_0, rf_171_1, rf_171_3, rf_171_4, rf_171_5, rf_171_6, rf_171_7, rf_171_8, rf_171_10, rf_171_13, rf_171_14, rf_171_15, rf_171_16, rf_171_17, rf_171_20, rf_171_21, rf_171_27, rf_171_28, rf_171_29, rf_171_30, rf_171_31, c, if_false, htr, wp_iaload kd_172, wp_iastore kd_172, zu_setc, pwm_A, pwm_sA, e462]
      have eA2 : ups (ups y.1 (463 + y.1 462) D) 462 (y.1 462 + 1) = pwA y.1 D := rfl
      simp (disch := omega) only [eA2, hwb, wp_iload, wp_aload, wp_istore, wp_astore, wp_iinc, wp_iconst, wp_dup, wp_dup2, wp_pop, wp_iadd, wp_isub, wp_imul, wp_idiv, wp_irem, wp_ineg, wp_iand, wp_ior, wp_ixor, wp_ishl, wp_ishr, wp_getI, wp_putI, wp_getR, wp_goto, wp_goto_w, wq_if_eq, wq_if_ne, wq_if_lt, wq_if_ge, wq_if_gt, wq_if_le, wq_icmp_eq, wq_icmp_ne, wq_icmp_lt, wq_icmp_ge, wq_icmp_gt, wq_icmp_le, wp_max, wp_min, kI_inl, kR_some, kN_inl, kO_some, KT_none, KT_some, List.length_cons, List.length_nil, Nat.reduceAdd, Nat.reduceLT, Nat.reduceLeDiff, Nat.reduceMod, Nat.reduceDiv, true_and, and_true, Int.reduceLE, Int.reduceNeg, Int.reduceLT, Int.cast_ofNat_Int, Nat.zero_le, zI, Int.reduceAdd, Int.reduceSub, Int.reduceMul, not_true_eq_false, not_false_eq_true, false_implies, true_implies, i01_0, i01_1, ite_not, ↓reduceIte, zget_0, zget_1, zget_2, zget_3, zget_4, zget_5, zget_6, zget_7, zget_8, zget_9, zget_10, zset_0, zset_1, zset_2, zset_3, zset_4, zset_5, zset_6, zset_7, zset_8, zset_9, zset_10, kd_171, rf_171_0, rf_171_1, rf_171_3, rf_171_4, rf_171_5, rf_171_6, rf_171_7, rf_171_8, rf_171_10, rf_171_13, rf_171_14, rf_171_15, rf_171_16, rf_171_17, rf_171_20, rf_171_21, rf_171_27, rf_171_28, rf_171_29, rf_171_30, rf_171_31, eb, hln', htm, cw_181, cw_186]
      try (repeat (refine (and_iff_right (by omega)).trans ?_))
      try exact Iff.rfl
def puA (A : Int → Int) : Int → Int := ups (lp puF 20 0 A) 462 0
/-- where number() leaves the memory -/
def goX (im : zM) : zM := nbm (wkm (setc im 172 (puA (im 172))) (waM (setc im 172 (puA (im 172))))) (nuE (setc im 172 (puA (im 172))))
def goO (im : zM) : (Int → Int) × Int := waM (setc im 172 (puA (im 172)))
def goN (im : zM) : Int → Bool := (nuZ (setc im 172 (puA (im 172)))).2
/-- after refusing -/
def goS (im : zM) : zPw := pwS (goO im).1 (goO im).2 20 (goX im 172, goN im, lnN (goX im 172) (goN im) (lyg (goX im)))
def goA (im : zM) : Int → Int := ldL (goS im).2.2.2.2.1 (goS im).2.2.2.2.2.1 5 0 (lp (onF (goS im).2.1) 20 0 (goS im).1)
/-- POWER-UP goes well -/
def GoP (im : zM) : Prop := MU (puA (im 172)) ∧ MG (puA (im 172)) ∧ NuP (goO im).1 (goO im).2.toNat 0 ((puA (im 172), im 180, 0, 1), fun _ => false) ∧ NdP (goX im 172) (goN im) (lyg (goX im)) ∧ PwP (goO im).1 (goO im).2 20 (goX im 172, goN im, lnN (goX im 172) (goN im) (lyg (goX im))) ∧ DK (goS im).2.2.2.2.1 ∧ LwL (goS im).2.2.2.2.1 (goS im).2.2.2.2.2.1 5 0 (lp (onF (goS im).2.1) 20 0 (goS im).1)
theorem c_goPower (h : GoP im) : CallP (d + 5) 187 [.inr (some 171)] im Q ↔ Q (some (.inl (lp (cntf (goS im).2.1) 20 0 0))) (pwm (goX im) (goA im) (goS im).2.2) := by
  obtain ⟨hMU, hMG, hNu, hNd, hPw, hDK, hLw⟩ := h
  have e180 : setc im 172 (puA (im 172)) 180 = im 180 := setc_ne _ _ (by omega)
  have hnum := c_number (d := d) (im := setc im 172 (puA (im 172))) (by rw [setc_at]; exact hMU) (by rw [setc_at]; exact hMG) (by rw [setc_at, e180]; exact hNu)
  have hnum1 : ∀ Q, CallP (d + 4) 183 [.inr (some 171)] (setc im 172 (puA (im 172))) Q ↔ Q (some (.inl (bs (goN im)))) (goX im) := hnum.1
  obtain ⟨n1, n2, n3, n4, n5⟩ := hNd
  have hln := fun Q => c_layNeeds (d := d) (X := goX im) (A := goX im 172) (Q := Q) rfl n1 n2 (on := goN im) n3 (r := lyg (goX im)) n4 n5
  rw [lym_self] at hln
  have hln' : ∀ Q, CallP (d + 4) 181 [.inr (some 171), .inl (bs (goN im))] (goX im) Q ↔ Q none (pwm (goX im) (goX im 172) (lnN (goX im 172) (goN im) (lyg (goX im)))) := by
    unfold pwm
    rw [setc_self]
    exact hln
  have hX2 : goX im 171 2 = (goO im).2 := by
    unfold goX
    rw [nbm_f (by omega) (by omega)]
    exact wkm_n
  have hX3 : goX im 173 = (goO im).1 := by
    unfold goX
    rw [nbm_o (by omega) (by omega) (by omega)]
    exact wkm_o
  obtain ⟨-, hw2, hw3⟩ := c_layWalk (d := d) (im := setc im 172 (puA (im 172))) (Q := fun _ _ => True) (by rw [setc_at]; exact hMU)
  have hth : ∀ j : Int, 0 ≤ j → j < (goO im).2 → 0 ≤ (goO im).1 j ∧ (goO im).1 j < 20 := fun j q0 q1 => by
    have h9 : thM (setc im 172 (puA (im 172)) 172) ((goO im).1 j) := hw3 j q0 q1
    exact ⟨h9.1, by have := h9.2.1; omega⟩
  obtain ⟨x3', hpw⟩ := l_pw (d := d) (X := goX im) hX2 hX3 hth hw2 20 (goX im 172, goN im, lnN (goX im 172) (goN im) (lyg (goX im))) (.inr none) hPw
  have htm := fun A r Q => c_tooMuch (d := d + 3) (im := pwm (goX im) A r) (Q := Q)
  simp only [pwm_A, pwm_N] at htm
  have hpu := l_pu (d := d) 20 0 im (by omega) (by omega) Q
  have hon := l_on (d := d) (on := (goS im).2.1) (x3 := x3') 20 0 (pwm (goX im) (goS im).1 (goS im).2.2) (by omega) (by omega) Q
  rw [pwm_A, pwm_sA] at hon
  have h176 : ∀ A r, pwm (goX im) A r 176 = r.2.2.1 := fun A r => lym_D
  have h177 : ∀ A r, pwm (goX im) A r 177 = r.2.2.2.1 := fun A r => lym_S
  have hll := l_ldL (d := d) (D := (goS im).2.2.2.2.1) (S := (goS im).2.2.2.2.2.1) hDK (on := (goS im).2.1) 5 0 (pwm (goX im) (lp (onF (goS im).2.1) 20 0 (goS im).1) (goS im).2.2) x3' (by omega) (by omega) (h176 _ _) (h177 _ _) (by rw [pwm_A]; exact hLw) Q
  rw [pwm_A, pwm_sA] at hll
  have e1 : setc (setc im 172 (lp puF 20 0 (im 172))) 172 (ups (setc im 172 (lp puF 20 0 (im 172)) 172) 462 0) = setc im 172 (puA (im 172)) := by
    rw [setc_at, setc_setc]
    rfl
  simp (disch := omega) only [en_187, pg_187_0, wp_iload, wp_aload, wp_istore, wp_astore, wp_iinc, wp_iconst, wp_dup, wp_dup2, wp_pop, wp_iadd, wp_isub, wp_imul, wp_idiv, wp_irem, wp_ineg, wp_iand, wp_ior, wp_ixor, wp_ishl, wp_ishr, wp_getI, wp_putI, wp_getR, wp_goto, wp_goto_w, wq_if_eq, wq_if_ne, wq_if_lt, wq_if_ge, wq_if_gt, wq_if_le, wq_icmp_eq, wq_icmp_ne, wq_icmp_lt, wq_icmp_ge, wq_icmp_gt, wq_icmp_le, wp_max, wp_min, kI_inl, kR_some, kN_inl, kO_some, KT_none, KT_some, List.length_cons, List.length_nil, Nat.reduceAdd, Nat.reduceLT, Nat.reduceLeDiff, Nat.reduceMod, Nat.reduceDiv, true_and, and_true, Int.reduceLE, Int.reduceNeg, Int.reduceLT, Int.cast_ofNat_Int, Nat.zero_le, zI, Int.reduceAdd, Int.reduceSub, Int.reduceMul, not_true_eq_false, not_false_eq_true, false_implies, true_implies, i01_0, i01_1, ite_not, ↓reduceIte, zget_0, zget_1, zget_2, zget_3, zget_4, zget_5, zget_6, zget_7, zget_8, zget_9, zget_10, zset_0, zset_1, zset_2, zset_3, zset_4, zset_5, zset_6, zset_7, zset_8, zset_9, zset_10]
  rw [hpu, pg_187_27]
  simp (disch := omega) only [cw_183, cw_181, cw_186, wp_iload, wp_aload, wp_istore, wp_astore, wp_iinc, wp_iconst, wp_dup, wp_dup2, wp_pop, wp_iadd, wp_isub, wp_imul, wp_idiv, wp_irem, wp_ineg, wp_iand, wp_ior, wp_ixor, wp_ishl, wp_ishr, wp_getI, wp_putI, wp_getR, wp_goto, wp_goto_w, wq_if_eq, wq_if_ne, wq_if_lt, wq_if_ge, wq_if_gt, wq_if_le, wq_icmp_eq, wq_icmp_ne, wq_icmp_lt, wq_icmp_ge, wq_icmp_gt, wq_icmp_le, wp_max, wp_min, kI_inl, kR_some, kN_inl, kO_some, KT_none, KT_some, List.length_cons, List.length_nil, Nat.reduceAdd, Nat.reduceLT, Nat.reduceLeDiff, Nat.reduceMod, Nat.reduceDiv, true_and, and_true, Int.reduceLE, Int.reduceNeg, Int.reduceLT, Int.cast_ofNat_Int, Nat.zero_le, zI, Int.reduceAdd, Int.reduceSub, Int.reduceMul, not_true_eq_false, not_false_eq_true, false_implies, true_implies, i01_0, i01_1, ite_not, ↓reduceIte, zget_0, zget_1, zget_2, zget_3, zget_4, zget_5, zget_6, zget_7, zget_8, zget_9, zget_10, zset_0, zset_1, zset_2, zset_3, zset_4, zset_5, zset_6, zset_7, zset_8, zset_9, zset_10, kd_171, rf_171_0, rf_171_1, rf_171_3, rf_171_4, rf_171_5, rf_171_6, rf_171_7, rf_171_8, rf_171_10, rf_171_13, rf_171_14, rf_171_15, rf_171_16, rf_171_17, rf_171_20, rf_171_21, rf_171_27, rf_171_28, rf_171_29, rf_171_30, rf_171_31, wp_iastore kd_172, zu_setc, e1, hnum1, hln', htm]
  refine Iff.trans (hpw Q) ?_
  rw [pg_187_115]
  simp (disch := omega) only [wp_iload, wp_aload, wp_istore, wp_astore, wp_iinc, wp_iconst, wp_dup, wp_dup2, wp_pop, wp_iadd, wp_isub, wp_imul, wp_idiv, wp_irem, wp_ineg, wp_iand, wp_ior, wp_ixor, wp_ishl, wp_ishr, wp_getI, wp_putI, wp_getR, wp_goto, wp_goto_w, wq_if_eq, wq_if_ne, wq_if_lt, wq_if_ge, wq_if_gt, wq_if_le, wq_icmp_eq, wq_icmp_ne, wq_icmp_lt, wq_icmp_ge, wq_icmp_gt, wq_icmp_le, wp_max, wp_min, kI_inl, kR_some, kN_inl, kO_some, KT_none, KT_some, List.length_cons, List.length_nil, Nat.reduceAdd, Nat.reduceLT, Nat.reduceLeDiff, Nat.reduceMod, Nat.reduceDiv, true_and, and_true, Int.reduceLE, Int.reduceNeg, Int.reduceLT, Int.cast_ofNat_Int, Nat.zero_le, zI, Int.reduceAdd, Int.reduceSub, Int.reduceMul, not_true_eq_false, not_false_eq_true, false_implies, true_implies, i01_0, i01_1, ite_not, ↓reduceIte, zget_0, zget_1, zget_2, zget_3, zget_4, zget_5, zget_6, zget_7, zget_8, zget_9, zget_10, zset_0, zset_1, zset_2, zset_3, zset_4, zset_5, zset_6, zset_7, zset_8, zset_9, zset_10]
  refine Iff.trans hon ?_
  rw [pg_187_160]
  simp (disch := omega) only [wp_iload, wp_aload, wp_istore, wp_astore, wp_iinc, wp_iconst, wp_dup, wp_dup2, wp_pop, wp_iadd, wp_isub, wp_imul, wp_idiv, wp_irem, wp_ineg, wp_iand, wp_ior, wp_ixor, wp_ishl, wp_ishr, wp_getI, wp_putI, wp_getR, wp_goto, wp_goto_w, wq_if_eq, wq_if_ne, wq_if_lt, wq_if_ge, wq_if_gt, wq_if_le, wq_icmp_eq, wq_icmp_ne, wq_icmp_lt, wq_icmp_ge, wq_icmp_gt, wq_icmp_le, wp_max, wp_min, kI_inl, kR_some, kN_inl, kO_some, KT_none, KT_some, List.length_cons, List.length_nil, Nat.reduceAdd, Nat.reduceLT, Nat.reduceLeDiff, Nat.reduceMod, Nat.reduceDiv, true_and, and_true, Int.reduceLE, Int.reduceNeg, Int.reduceLT, Int.cast_ofNat_Int, Nat.zero_le, zI, Int.reduceAdd, Int.reduceSub, Int.reduceMul, not_true_eq_false, not_false_eq_true, false_implies, true_implies, i01_0, i01_1, ite_not, ↓reduceIte, zget_0, zget_1, zget_2, zget_3, zget_4, zget_5, zget_6, zget_7, zget_8, zget_9, zget_10, zset_0, zset_1, zset_2, zset_3, zset_4, zset_5, zset_6, zset_7, zset_8, zset_9, zset_10]
  exact hll
theorem c_powerUpM (hm : HM im) (h : GoP (kaM im)) : CallP (d + 6) 189 [.inr (some 171)] im Q ↔ Q (some (.inl (lp (cntf (goS (kaM im)).2.1) 20 0 0))) (pwm (goX (kaM im)) (goA (kaM im)) (goS (kaM im)).2.2) := by
  have hk := fun Q => c_keepAct (d := d + 4) (im := im) (Q := Q) hm.1
  have hg := fun Q => c_goPower (d := d) (im := kaM im) (Q := Q) h
  simp (disch := omega) only [en_189, wp_ireturn rk_189, pg_189_0, cw_187, cw_264, wp_iload, wp_aload, wp_istore, wp_astore, wp_iinc, wp_iconst, wp_dup, wp_dup2, wp_pop, wp_iadd, wp_isub, wp_imul, wp_idiv, wp_irem, wp_ineg, wp_iand, wp_ior, wp_ixor, wp_ishl, wp_ishr, wp_getI, wp_putI, wp_getR, wp_goto, wp_goto_w, wq_if_eq, wq_if_ne, wq_if_lt, wq_if_ge, wq_if_gt, wq_if_le, wq_icmp_eq, wq_icmp_ne, wq_icmp_lt, wq_icmp_ge, wq_icmp_gt, wq_icmp_le, wp_max, wp_min, kI_inl, kR_some, kN_inl, kO_some, KT_none, KT_some, List.length_cons, List.length_nil, Nat.reduceAdd, Nat.reduceLT, Nat.reduceLeDiff, Nat.reduceMod, Nat.reduceDiv, true_and, and_true, Int.reduceLE, Int.reduceNeg, Int.reduceLT, Int.cast_ofNat_Int, Nat.zero_le, zI, Int.reduceAdd, Int.reduceSub, Int.reduceMul, not_true_eq_false, not_false_eq_true, false_implies, true_implies, i01_0, i01_1, ite_not, ↓reduceIte, zget_0, zget_1, zget_2, zget_3, zget_4, zget_5, zget_6, zget_7, zget_8, zget_9, zget_10, zset_0, zset_1, zset_2, zset_3, zset_4, zset_5, zset_6, zset_7, zset_8, zset_9, zset_10, kd_171, rf_171_0, rf_171_1, rf_171_3, rf_171_4, rf_171_5, rf_171_6, rf_171_7, rf_171_8, rf_171_10, rf_171_13, rf_171_14, rf_171_15, rf_171_16, rf_171_17, rf_171_20, rf_171_21, rf_171_27, rf_171_28, rf_171_29, rf_171_30, rf_171_31, hk, hg]
end MR5
