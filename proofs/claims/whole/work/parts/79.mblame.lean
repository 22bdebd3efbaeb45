/-! THE REFERENCE: blame, chance, would -/
section MZ2
variable {d : Nat} {im : zM} {Q : Option zV → zM → Prop} {a b v dv kd sl i j k f e bu t o : Int}
/-- what power-up leaves, and how many it puts on -/
def gpM (X : zM) : zM := pwm (goX X) (goA X) (goS X).2.2
def gpC (X : zM) : Int := lp (cntf (goS X).2.1) 20 0 0
theorem h_gp {X : zM} (h : GoP X) : CallP (d + 5) 187 [.inr (some 171)] X Q ↔ Q (some (.inl (gpC X))) (gpM X) := c_goPower h
theorem cntN_bd {p : Int → Bool} : ∀ (n : Nat) (i s : Int), s ≤ lp (cntf p) n i s ∧ lp (cntf p) n i s ≤ s + n
  | 0, i, s => by simp only [lp]; omega
  | n + 1, i, s => by
    have h := cntN_bd (p := p) n (i + 1) (cntf p i s)
    have e2 : s ≤ cntf p i s ∧ cntf p i s ≤ s + 1 := by
      unfold cntf
      split <;> omega
    simp only [lp]
    omega
theorem gpC_bd (X : zM) : 0 ≤ gpC X ∧ gpC X ≤ 20 := by
  have h := cntN_bd (p := (goS X).2.1) 20 0 0
  unfold gpC
  omega
theorem goX_o {X : zM} {p : Nat} (h : p < 171 ∨ 180 < p) : goX X p = X p := by
  unfold goX
  rw [nbm_o (by omega) (by omega) (by omega)]
  unfold wkm
  rw [setc_ne _ _ (by omega), setc_ne _ _ (by omega), setc_ne _ _ (by omega)]
theorem gpM_o {X : zM} {p : Nat} (h : p < 171 ∨ 180 < p) : gpM X p = X p := by
  unfold gpM
  rw [pwm_o (by omega), goX_o h]
theorem gpM_f {X : zM} (h : f ≠ 2 ∧ f ≠ 9 ∧ f ≠ 11 ∧ f ≠ 12) : gpM X 171 f = X 171 f := by
  unfold gpM
  rw [pwm_f h.2.1]
  unfold goX
  rw [nbm_f h.2.2.1 h.2.2.2]
  unfold wkm
  rw [setc_at, ups_ne _ _ h.1, setc_ne _ _ (by omega)]
theorem gpM_A {X : zM} : gpM X 172 = goA X := pwm_A
/-- the memory with the devices as they were laid aside -/
def cb2 (X : zM) : Int → Int := cpM2 (X 172) (X 188) 0
def tyM (X : zM) (e : Int) : zM := setc X 172 (ups (cb2 X) (23 * e + 0) 0)
def AgA (X im : zM) (F : Int → Int) : Prop := (∀ p : Nat, p < 171 ∨ 190 ≤ p → X p = im p) ∧ (X 171 32 = im 171 32 ∧ X 171 33 = im 171 33) ∧ (∀ j : Int, 0 ≤ j → j < 483 → X 188 j = im 172 j) ∧ X 189 = F ∧ X 184 = im 184 ∧ (DK (im 176) → DK (X 176))
def AgE (Y im : zM) : Prop := (∀ p : Nat, p < 171 ∨ 190 ≤ p → Y p = im p) ∧ (Y 171 32 = im 171 32 ∧ Y 171 33 = im 171 33) ∧ (∀ j : Int, 0 ≤ j → j < 483 → Y 172 j = im 172 j) ∧ Y 184 = im 184 ∧ (DK (im 176) → DK (Y 176))
theorem AgA_gp {X : zM} {F : Int → Int} (hg : GoP X) (h : AgA X im F) : AgA (gpM X) im F := by
  refine ⟨fun p hp => ?_, ⟨?_, ?_⟩, ?_, ?_, ?_, fun _ => ?_⟩
  · rw [gpM_o (by omega), h.1 p hp]
  · rw [gpM_f (by omega), h.2.1.1]
  · rw [gpM_f (by omega), h.2.1.2]
  · rw [gpM_o (by omega)]
    exact h.2.2.1
  · rw [gpM_o (by omega)]
    exact h.2.2.2.1
  · rw [gpM_o (by omega)]
    exact h.2.2.2.2.1
  · unfold gpM pwm
    rw [lym_D]
    exact hg.2.2.2.2.2.1
theorem AgA_s {X : zM} {F A : Int → Int} (h : AgA X im F) : AgA (setc X 172 A) im F := by
  refine ⟨fun p hp => ?_, ⟨?_, ?_⟩, ?_, ?_, ?_, ?_⟩
  · rw [setc_ne _ _ (by omega), h.1 p hp]
  · rw [setc_ne _ _ (by omega), h.2.1.1]
  · rw [setc_ne _ _ (by omega), h.2.1.2]
  · rw [setc_ne _ _ (by omega)]
    exact h.2.2.1
  · rw [setc_ne _ _ (by omega)]
    exact h.2.2.2.1
  · rw [setc_ne _ _ (by omega)]
    exact h.2.2.2.2.1
  · rw [setc_ne _ _ (by omega)]
    exact h.2.2.2.2.2
theorem AgA_end {X : zM} {F : Int → Int} (h : AgA X im F) : AgE (setc X 172 (cb2 X)) im := by
  refine ⟨fun p hp => ?_, ⟨?_, ?_⟩, fun j h0 h1 => ?_, ?_, ?_⟩
  · rw [setc_ne _ _ (by omega), h.1 p hp]
  · rw [setc_ne _ _ (by omega), h.2.1.1]
  · rw [setc_ne _ _ (by omega), h.2.1.2]
  · rw [setc_at]
    unfold cb2 cpM2
    rw [if_pos ⟨h0, h1⟩]
    exact h.2.2.1 j h0 h1
  · rw [setc_ne _ _ (by omega)]
    exact h.2.2.2.2.1
  · rw [setc_ne _ _ (by omega)]
    exact h.2.2.2.2.2
/-- the memory laid aside -/
def psM (X : zM) : zM := setc X 188 (cpM2 (X 188) (X 172) 0)
theorem AgA_ps : AgA (psM (leX im)) im (leW im).2 := by
  have e172 : leX im 172 = im 172 := by
    unfold leX
    rw [setc_ne _ _ (by omega), wkm_A]
  have e171 : ∀ f : Int, f ≠ 2 → leX im 171 f = im 171 f := fun f hf => by
    unfold leX wkm
    rw [setc_ne _ _ (by omega), setc_at, ups_ne _ _ hf]
  unfold psM
  refine ⟨fun p hp => ?_, ⟨?_, ?_⟩, fun j h0 h1 => ?_, ?_, ?_, ?_⟩
  · rw [setc_ne _ _ (by omega)]
    unfold leX wkm
    rw [setc_ne _ _ (by omega), setc_ne _ _ (by omega), setc_ne _ _ (by omega)]
  · rw [setc_ne _ _ (by omega), e171 _ (by omega)]
  · rw [setc_ne _ _ (by omega), e171 _ (by omega)]
  · rw [setc_at, e172]
    unfold cpM2
    rw [if_pos ⟨h0, h1⟩]
  · rw [setc_ne _ _ (by omega)]
    unfold leX
    rw [setc_at]
  · rw [setc_ne _ _ (by omega)]
    unfold leX wkm
    rw [setc_ne _ _ (by omega), setc_ne _ _ (by omega), setc_ne _ _ (by omega)]
  · rw [setc_ne _ _ (by omega)]
    unfold leX wkm
    rw [setc_ne _ _ (by omega), setc_ne _ _ (by omega), setc_ne _ _ (by omega)]
    exact id
/-- what a try of blame must be known to do -/
def BlM (im : zM) (F : Int → Int) (n dv : Int) (B : Int → Bool) : Prop := ∀ X, AgA X im F → ∀ i, 0 ≤ i → i < n → (0 ≤ F i ∧ F i < 20) ∧ (F i ≠ dv → GoP (tyM X (F i)) ∧ ((0 < gpC (tyM X (F i)) ∧ onM (goA (tyM X (F i))) dv) ↔ B (F i) = true))
def bmS (F : Int → Int) (dv : Int) (B : Int → Bool) : Nat → Int → Int
  | 0, _ => -1
  | m + 1, i => if F i ≠ dv ∧ B (F i) = true then F i else bmS F dv B m (i + 1)
theorem e_blame {F : Int → Int} {X : zM} {x2 x3 x5 x6 : zV} {r : Int} (hX : AgA X im F) : wp none (d + 6) 255 (zpg 255 140) [.inr (some 171), .inl dv, x2, x3, .inl r, x5, x6] [] X (fun r' Y => r' = some (.inl r) ∧ AgE Y im) := by
  have hb := fun Q => c_bringBack (d := d + 4) (im := X) (Q := Q)
  rw [pg_255_140]
  simp (disch := omega) only [wp_ireturn rk_255, pg_255_11, pg_255_44, pg_255_45, pg_255_75, pg_255_113, pg_255_114, pg_255_131, pg_255_132, pg_255_134, pg_255_140, cw_143, cw_145, cw_147, cw_187, cw_252, cw_253, cw_254, cw_253, wp_iload, wp_aload, wp_istore, wp_astore, wp_iinc, wp_iconst, wp_dup, wp_dup2, wp_pop, wp_iadd, wp_isub, wp_imul, wp_idiv, wp_irem, wp_ineg, wp_iand, wp_ior, wp_ixor, wp_ishl, wp_ishr, wp_getI, wp_putI, wp_getR, wp_goto, wp_goto_w, wq_if_eq, wq_if_ne, wq_if_lt, wq_if_ge, wq_if_gt, wq_if_le, wq_icmp_eq, wq_icmp_ne, wq_icmp_lt, wq_icmp_ge, wq_icmp_gt, wq_icmp_le, wp_max, wp_min, kI_inl, kR_some, kN_inl, kO_some, KT_none, KT_some, List.length_cons, List.length_nil, Nat.reduceAdd, Nat.reduceLT, Nat.reduceLeDiff, Nat.reduceMod, Nat.reduceDiv, true_and, and_true, Int.reduceLE, Int.reduceNeg, Int.reduceLT, Int.cast_ofNat_Int, Nat.zero_le, zI, Int.reduceAdd, Int.reduceSub, Int.reduceMul, not_true_eq_false, not_false_eq_true, false_implies, true_implies, i01_0, i01_1, ite_not, ↓reduceIte, zget_0, zget_1, zget_2, zget_3, zget_4, zget_5, zget_6, zget_7, zget_8, zget_9, zget_10, zset_0, zset_1, zset_2, zset_3, zset_4, zset_5, zset_6, zset_7, zset_8, zset_9, zset_10, kd_171, rf_171_0, rf_171_1, rf_171_3, rf_171_4, rf_171_5, rf_171_6, rf_171_7, rf_171_8, rf_171_10, rf_171_13, rf_171_14, rf_171_15, rf_171_16, rf_171_17, rf_171_20, rf_171_21, rf_171_27, rf_171_28, rf_171_29, rf_171_30, rf_171_31, hb, true_and]
  exact AgA_end hX
theorem l_blameM {F : Int → Int} {n : Int} {B : Int → Bool} (hn : n ≤ 20) (hB : BlM im F n dv B) : ∀ (m : Nat) (i : Int) (X : zM) (x3 : zV), 0 ≤ i → i + m = n → AgA X im F → wp none (d + 6) 255 (zpg 255 50) [.inr (some 171), .inl dv, .inl n, x3, .inl (-1), .inl 0, .inl i] [] X (fun r Y => r = some (.inl (bmS F dv B m i)) ∧ AgE Y im) := by
  intro m
  induction m with
  | zero =>
    intro i X x3 h0 h1 hX
    have he := e_blame (d := d) (dv := dv) (x2 := .inl n) (x3 := x3) (x5 := .inl 0) (x6 := .inl i) (r := -1) hX
    rw [pg_255_50]
    simp (disch := omega) only [wp_iload, wp_aload, wp_istore, wp_astore, wp_iinc, wp_iconst, wp_dup, wp_dup2, wp_pop, wp_iadd, wp_isub, wp_imul, wp_idiv, wp_irem, wp_ineg, wp_iand, wp_ior, wp_ixor, wp_ishl, wp_ishr, wp_getI, wp_putI, wp_getR, wp_goto, wp_goto_w, wq_if_eq, wq_if_ne, wq_if_lt, wq_if_ge, wq_if_gt, wq_if_le, wq_icmp_eq, wq_icmp_ne, wq_icmp_lt, wq_icmp_ge, wq_icmp_gt, wq_icmp_le, wp_max, wp_min, kI_inl, kR_some, kN_inl, kO_some, KT_none, KT_some, List.length_cons, List.length_nil, Nat.reduceAdd, Nat.reduceLT, Nat.reduceLeDiff, Nat.reduceMod, Nat.reduceDiv, true_and, and_true, Int.reduceLE, Int.reduceNeg, Int.reduceLT, Int.cast_ofNat_Int, Nat.zero_le, zI, Int.reduceAdd, Int.reduceSub, Int.reduceMul, not_true_eq_false, not_false_eq_true, false_implies, true_implies, i01_0, i01_1, ite_not, ↓reduceIte, zget_0, zget_1, zget_2, zget_3, zget_4, zget_5, zget_6, zget_7, zget_8, zget_9, zget_10, zset_0, zset_1, zset_2, zset_3, zset_4, zset_5, zset_6, zset_7, zset_8, zset_9, zset_10, show n ≤ i by omega, if_true, bmS]
    exact he
  | succ m ih =>
    intro i X x3 h0 h1 hX
    obtain ⟨hf, hb⟩ := hB X hX i h0 (by omega)
    by_cases c1 : F i = dv
    · have ec : bmS F dv B (m + 1) i = bmS F dv B m (i + 1) := if_neg (fun q => q.1 c1)
      have ih := ih (i + 1) X x3 (by omega) (by omega) hX
      rw [ec, pg_255_50]
      simp (disch := omega) only [wp_ireturn rk_255, pg_255_11, pg_255_44, pg_255_45, pg_255_75, pg_255_113, pg_255_114, pg_255_131, pg_255_132, pg_255_134, pg_255_140, cw_143, cw_145, cw_147, cw_187, cw_252, cw_253, cw_254, wp_iload, wp_aload, wp_istore, wp_astore, wp_iinc, wp_iconst, wp_dup, wp_dup2, wp_pop, wp_iadd, wp_isub, wp_imul, wp_idiv, wp_irem, wp_ineg, wp_iand, wp_ior, wp_ixor, wp_ishl, wp_ishr, wp_getI, wp_putI, wp_getR, wp_goto, wp_goto_w, wq_if_eq, wq_if_ne, wq_if_lt, wq_if_ge, wq_if_gt, wq_if_le, wq_icmp_eq, wq_icmp_ne, wq_icmp_lt, wq_icmp_ge, wq_icmp_gt, wq_icmp_le, wp_max, wp_min, kI_inl, kR_some, kN_inl, kO_some, KT_none, KT_some, List.length_cons, List.length_nil, Nat.reduceAdd, Nat.reduceLT, Nat.reduceLeDiff, Nat.reduceMod, Nat.reduceDiv, true_and, and_true, Int.reduceLE, Int.reduceNeg, Int.reduceLT, Int.cast_ofNat_Int, Nat.zero_le, zI, Int.reduceAdd, Int.reduceSub, Int.reduceMul, not_true_eq_false, not_false_eq_true, false_implies, true_implies, i01_0, i01_1, ite_not, ↓reduceIte, zget_0, zget_1, zget_2, zget_3, zget_4, zget_5, zget_6, zget_7, zget_8, zget_9, zget_10, zset_0, zset_1, zset_2, zset_3, zset_4, zset_5, zset_6, zset_7, zset_8, zset_9, zset_10, kd_171, rf_171_0, rf_171_1, rf_171_3, rf_171_4, rf_171_5, rf_171_6, rf_171_7, rf_171_8, rf_171_10, rf_171_13, rf_171_14, rf_171_15, rf_171_16, rf_171_17, rf_171_20, rf_171_21, rf_171_27, rf_171_28, rf_171_29, rf_171_30, rf_171_31, show ¬ n ≤ i by omega, if_false, wp_iaload kd_189, hX.2.2.2.1, c1, not_true_eq_false, if_true]
      repeat (refine (and_iff_right (by omega)).mpr ?_)
      exact ih
    · obtain ⟨hg, hb⟩ := hb c1
      have hbr := fun Q => c_bringBack (d := d + 4) (im := X) (Q := Q)
      have hgp := fun Q => h_gp (d := d) (X := tyM X (F i)) (Q := Q) hg
      have hbd := gpC_bd (tyM X (F i))
      have hA := AgA_gp hg (AgA_s (A := ups (cb2 X) (23 * F i + 0) 0) hX)
      have hgp' : ∀ Q, CallP (d + 5) 187 [.inr (some 171)] (setc X 172 (ups (cpM2 (X 172) (X 188) 0) (23 * F i + 0) 0)) Q ↔ Q (some (.inl (gpC (tyM X (F i))))) (gpM (tyM X (F i))) := hgp
      have hon := fun Q => c_onM (d := d + 3) (im := gpM (tyM X (F i))) (dv := dv) (Q := Q)
      rw [gpM_A] at hon
      have hA' : AgA (gpM (tyM X (F i))) im F := hA
      by_cases c2 : B (F i) = true
      · have ec : bmS F dv B (m + 1) i = F i := if_pos ⟨c1, c2⟩
        obtain ⟨h3, h4⟩ := hb.mpr c2
        have he := fun x3 x6 => e_blame (d := d) (dv := dv) (x2 := .inl n) (x3 := x3) (x5 := .inl 1) (x6 := x6) (r := F i) hA'
        have e50 : ∀ x3 x6, wp none (d + 6) 255 (zpg 255 50) [.inr (some 171), .inl dv, .inl n, x3, .inl (F i), .inl 1, .inl x6] [] (gpM (tyM X (F i))) (fun r Y => r = some (.inl (F i)) ∧ AgE Y im) := by
          intro x3 x6
          rw [pg_255_50]
          by_cases c5 : n ≤ x6
          · simp (disch := omega) only [wp_iload, wp_aload, wp_istore, wp_astore, wp_iinc, wp_iconst, wp_dup, wp_dup2, wp_pop, wp_iadd, wp_isub, wp_imul, wp_idiv, wp_irem, wp_ineg, wp_iand, wp_ior, wp_ixor, wp_ishl, wp_ishr, wp_getI, wp_putI, wp_getR, wp_goto, wp_goto_w, wq_if_eq, wq_if_ne, wq_if_lt, wq_if_ge, wq_if_gt, wq_if_le, wq_icmp_eq, wq_icmp_ne, wq_icmp_lt, wq_icmp_ge, wq_icmp_gt, wq_icmp_le, wp_max, wp_min, kI_inl, kR_some, kN_inl, kO_some, KT_none, KT_some, List.length_cons, List.length_nil, Nat.reduceAdd, Nat.reduceLT, Nat.reduceLeDiff, Nat.reduceMod, Nat.reduceDiv, true_and, and_true, Int.reduceLE, Int.reduceNeg, Int.reduceLT, Int.cast_ofNat_Int, Nat.zero_le, zI, Int.reduceAdd, Int.reduceSub, Int.reduceMul, not_true_eq_false, not_false_eq_true, false_implies, true_implies, i01_0, i01_1, ite_not, ↓reduceIte, zget_0, zget_1, zget_2, zget_3, zget_4, zget_5, zget_6, zget_7, zget_8, zget_9, zget_10, zset_0, zset_1, zset_2, zset_3, zset_4, zset_5, zset_6, zset_7, zset_8, zset_9, zset_10, c5, if_true]
            exact he _ _
          · simp (disch := omega) only [wp_iload, wp_aload, wp_istore, wp_astore, wp_iinc, wp_iconst, wp_dup, wp_dup2, wp_pop, wp_iadd, wp_isub, wp_imul, wp_idiv, wp_irem, wp_ineg, wp_iand, wp_ior, wp_ixor, wp_ishl, wp_ishr, wp_getI, wp_putI, wp_getR, wp_goto, wp_goto_w, wq_if_eq, wq_if_ne, wq_if_lt, wq_if_ge, wq_if_gt, wq_if_le, wq_icmp_eq, wq_icmp_ne, wq_icmp_lt, wq_icmp_ge, wq_icmp_gt, wq_icmp_le, wp_max, wp_min, kI_inl, kR_some, kN_inl, kO_some, KT_none, KT_some, List.length_cons, List.length_nil, Nat.reduceAdd, Nat.reduceLT, Nat.reduceLeDiff, Nat.reduceMod, Nat.reduceDiv, true_and, and_true, Int.reduceLE, Int.reduceNeg, Int.reduceLT, Int.cast_ofNat_Int, Nat.zero_le, zI, Int.reduceAdd, Int.reduceSub, Int.reduceMul, not_true_eq_false, not_false_eq_true, false_implies, true_implies, i01_0, i01_1, ite_not, ↓reduceIte, zget_0, zget_1, zget_2, zget_3, zget_4, zget_5, zget_6, zget_7, zget_8, zget_9, zget_10, zset_0, zset_1, zset_2, zset_3, zset_4, zset_5, zset_6, zset_7, zset_8, zset_9, zset_10, c5, if_false, show ¬ (1 : Int) = 0 by omega, not_false_eq_true, if_true]
            exact he _ _
        rw [ec, pg_255_50]
        simp (disch := omega) only [wp_iload, wp_aload, wp_istore, wp_astore, wp_iinc, wp_iconst, wp_dup, wp_dup2, wp_pop, wp_iadd, wp_isub, wp_imul, wp_idiv, wp_irem, wp_ineg, wp_iand, wp_ior, wp_ixor, wp_ishl, wp_ishr, wp_getI, wp_putI, wp_getR, wp_goto, wp_goto_w, wq_if_eq, wq_if_ne, wq_if_lt, wq_if_ge, wq_if_gt, wq_if_le, wq_icmp_eq, wq_icmp_ne, wq_icmp_lt, wq_icmp_ge, wq_icmp_gt, wq_icmp_le, wp_max, wp_min, kI_inl, kR_some, kN_inl, kO_some, KT_none, KT_some, List.length_cons, List.length_nil, Nat.reduceAdd, Nat.reduceLT, Nat.reduceLeDiff, Nat.reduceMod, Nat.reduceDiv, true_and, and_true, Int.reduceLE, Int.reduceNeg, Int.reduceLT, Int.cast_ofNat_Int, Nat.zero_le, zI, Int.reduceAdd, Int.reduceSub, Int.reduceMul, not_true_eq_false, not_false_eq_true, false_implies, true_implies, i01_0, i01_1, ite_not, ↓reduceIte, zget_0, zget_1, zget_2, zget_3, zget_4, zget_5, zget_6, zget_7, zget_8, zget_9, zget_10, zset_0, zset_1, zset_2, zset_3, zset_4, zset_5, zset_6, zset_7, zset_8, zset_9, zset_10, kd_171, rf_171_0, rf_171_1, rf_171_3, rf_171_4, rf_171_5, rf_171_6, rf_171_7, rf_171_8, rf_171_10, rf_171_13, rf_171_14, rf_171_15, rf_171_16, rf_171_17, rf_171_20, rf_171_21, rf_171_27, rf_171_28, rf_171_29, rf_171_30, rf_171_31, wp_ireturn rk_255, pg_255_11, pg_255_44, pg_255_45, pg_255_75, pg_255_113, pg_255_114, pg_255_131, pg_255_132, pg_255_134, pg_255_140, cw_143, cw_145, cw_147, cw_187, cw_252, cw_253, cw_254, show ¬ n ≤ i by omega, wp_iaload kd_189, hX.2.2.2.1, c1, not_true_eq_false, not_false_eq_true, cw_253, cw_143, cw_187, cw_147, hbr, c_put, setc_at, setc_setc, setc_ne, hgp', hon, if_pos h4, if_true, show ¬ gpC (tyM X (F i)) ≤ 0 by omega, if_false, show ¬ (1 : Int) = 0 by omega, hA'.2.2.2.1]
        repeat (refine (and_iff_right (by omega)).mpr ?_)
        exact e50 _ _
      · have ec : bmS F dv B (m + 1) i = bmS F dv B m (i + 1) := if_neg (fun q => c2 q.2)
        have h3 : ¬ (0 < gpC (tyM X (F i)) ∧ onM (goA (tyM X (F i))) dv) := fun q => c2 (hb.mp q)
        have ih := fun x3 => ih (i + 1) (gpM (tyM X (F i))) x3 (by omega) (by omega) hA'
        rw [ec, pg_255_50]
        by_cases c6 : gpC (tyM X (F i)) ≤ 0
        · simp (disch := omega) only [wp_iload, wp_aload, wp_istore, wp_astore, wp_iinc, wp_iconst, wp_dup, wp_dup2, wp_pop, wp_iadd, wp_isub, wp_imul, wp_idiv, wp_irem, wp_ineg, wp_iand, wp_ior, wp_ixor, wp_ishl, wp_ishr, wp_getI, wp_putI, wp_getR, wp_goto, wp_goto_w, wq_if_eq, wq_if_ne, wq_if_lt, wq_if_ge, wq_if_gt, wq_if_le, wq_icmp_eq, wq_icmp_ne, wq_icmp_lt, wq_icmp_ge, wq_icmp_gt, wq_icmp_le, wp_max, wp_min, kI_inl, kR_some, kN_inl, kO_some, KT_none, KT_some, List.length_cons, List.length_nil, Nat.reduceAdd, Nat.reduceLT, Nat.reduceLeDiff, Nat.reduceMod, Nat.reduceDiv, true_and, and_true, Int.reduceLE, Int.reduceNeg, Int.reduceLT, Int.cast_ofNat_Int, Nat.zero_le, zI, Int.reduceAdd, Int.reduceSub, Int.reduceMul, not_true_eq_false, not_false_eq_true, false_implies, true_implies, i01_0, i01_1, ite_not, ↓reduceIte, zget_0, zget_1, zget_2, zget_3, zget_4, zget_5, zget_6, zget_7, zget_8, zget_9, zget_10, zset_0, zset_1, zset_2, zset_3, zset_4, zset_5, zset_6, zset_7, zset_8, zset_9, zset_10, kd_171, rf_171_0, rf_171_1, rf_171_3, rf_171_4, rf_171_5, rf_171_6, rf_171_7, rf_171_8, rf_171_10, rf_171_13, rf_171_14, rf_171_15, rf_171_16, rf_171_17, rf_171_20, rf_171_21, rf_171_27, rf_171_28, rf_171_29, rf_171_30, rf_171_31, wp_ireturn rk_255, pg_255_11, pg_255_44, pg_255_45, pg_255_75, pg_255_113, pg_255_114, pg_255_131, pg_255_132, pg_255_134, pg_255_140, cw_143, cw_145, cw_147, cw_187, cw_252, cw_253, cw_254, show ¬ n ≤ i by omega, wp_iaload kd_189, hX.2.2.2.1, c1, not_true_eq_false, not_false_eq_true, cw_253, cw_143, cw_187, cw_147, hbr, c_put, setc_at, setc_setc, setc_ne, hgp', c6, if_true, if_false]
          repeat (refine (and_iff_right (by omega)).mpr ?_)
          exact ih _
        · have h7 : ¬ onM (goA (tyM X (F i))) dv := fun q => h3 ⟨by omega, q⟩
          simp (disch := omega) only [wp_iload, wp_aload, wp_istore, wp_astore, wp_iinc, wp_iconst, wp_dup, wp_dup2, wp_pop, wp_iadd, wp_isub, wp_imul, wp_idiv, wp_irem, wp_ineg, wp_iand, wp_ior, wp_ixor, wp_ishl, wp_ishr, wp_getI, wp_putI, wp_getR, wp_goto, wp_goto_w, wq_if_eq, wq_if_ne, wq_if_lt, wq_if_ge, wq_if_gt, wq_if_le, wq_icmp_eq, wq_icmp_ne, wq_icmp_lt, wq_icmp_ge, wq_icmp_gt, wq_icmp_le, wp_max, wp_min, kI_inl, kR_some, kN_inl, kO_some, KT_none, KT_some, List.length_cons, List.length_nil, Nat.reduceAdd, Nat.reduceLT, Nat.reduceLeDiff, Nat.reduceMod, Nat.reduceDiv, true_and, and_true, Int.reduceLE, Int.reduceNeg, Int.reduceLT, Int.cast_ofNat_Int, Nat.zero_le, zI, Int.reduceAdd, Int.reduceSub, Int.reduceMul, not_true_eq_false, not_false_eq_true, false_implies, true_implies, i01_0, i01_1, ite_not, ↓reduceIte, zget_0, zget_1, zget_2, zget_3, zget_4, zget_5, zget_6, zget_7, zget_8, zget_9, zget_10, zset_0, zset_1, zset_2, zset_3, zset_4, zset_5, zset_6, zset_7, zset_8, zset_9, zset_10, kd_171, rf_171_0, rf_171_1, rf_171_3, rf_171_4, rf_171_5, rf_171_6, rf_171_7, rf_171_8, rf_171_10, rf_171_13, rf_171_14, rf_171_15, rf_171_16, rf_171_17, rf_171_20, rf_171_21, rf_171_27, rf_171_28, rf_171_29, rf_171_30, rf_171_31, wp_ireturn rk_255, pg_255_11, pg_255_44, pg_255_45, pg_255_75, pg_255_113, pg_255_114, pg_255_131, pg_255_132, pg_255_134, pg_255_140, cw_143, cw_145, cw_147, cw_187, cw_252, cw_253, cw_254, show ¬ n ≤ i by omega, wp_iaload kd_189, hX.2.2.2.1, c1, not_true_eq_false, not_false_eq_true, cw_253, cw_143, cw_187, cw_147, hbr, c_put, setc_at, setc_setc, setc_ne, hgp', hon, if_neg h7, c6, if_true, if_false]
          repeat (refine (and_iff_right (by omega)).mpr ?_)
          exact ih _
theorem c_blameM (hA : MU (im 172)) (hg : epM (im 172) dv → GoP (psM (leX im))) {B : Int → Bool} (hB : epM (im 172) dv → BlM im (leW im).2 (leW im).1 dv B) : CallP (d + 6) 255 [.inr (some 171), .inl dv] im (fun r Y => r = some (.inl (if epM (im 172) dv then (if 0 < gpC (psM (leX im)) ∧ onM (goA (psM (leX im))) dv then -1 else bmS (leW im).2 dv B (leW im).1.toNat 0) else -2)) ∧ AgE Y im) := by
  by_cases c : epM (im 172) dv
  · obtain ⟨hle, hlb⟩ := c_layEnds (d := d + 1) (im := im) hA
    have hps := fun Q => c_putAside (d := d + 4) (im := leX im) (Q := Q)
    have hgp := fun Q => h_gp (d := d) (X := psM (leX im)) (Q := Q) (hg c)
    have hgp' : ∀ Q, CallP (d + 5) 187 [.inr (some 171)] (setc (leX im) 188 (cpM2 (leX im 188) (leX im 172) 0)) Q ↔ Q (some (.inl (gpC (psM (leX im))))) (gpM (psM (leX im))) := hgp
    have hA' : AgA (gpM (psM (leX im))) im (leW im).2 := AgA_gp (hg c) AgA_ps
    have hon := fun Q => c_onM (d := d + 3) (im := gpM (psM (leX im))) (dv := dv) (Q := Q)
    rw [gpM_A] at hon
    have hbl := fun x3 => l_blameM (d := d) (im := im) (dv := dv) hlb.2 (hB c) (leW im).1.toNat 0 (gpM (psM (leX im))) x3 (by omega) (by omega) hA'
    have he := fun x3 x5 x6 => e_blame (d := d) (dv := dv) (x2 := .inl (leW im).1) (x3 := x3) (x5 := x5) (x6 := x6) (r := -1) hA'
    have ei1 : ¬ (0 < gpC (psM (leX im)) ∧ onM (goA (psM (leX im))) dv) → (if 0 < gpC (psM (leX im)) ∧ onM (goA (psM (leX im))) dv then (-1 : Int) else bmS (leW im).2 dv B (leW im).1.toNat 0) = bmS (leW im).2 dv B (leW im).1.toNat 0 := fun q => if_neg q
    have ei2 : 0 < gpC (psM (leX im)) ∧ onM (goA (psM (leX im))) dv → (if 0 < gpC (psM (leX im)) ∧ onM (goA (psM (leX im))) dv then (-1 : Int) else bmS (leW im).2 dv B (leW im).1.toNat 0) = -1 := fun q => if_pos q
    rw [if_pos c]
    simp (disch := omega) only [en_255, pg_255_0, pg_255_11, cw_145, cw_254, cw_252, cw_187, wp_iload, wp_aload, wp_istore, wp_astore, wp_iinc, wp_iconst, wp_dup, wp_dup2, wp_pop, wp_iadd, wp_isub, wp_imul, wp_idiv, wp_irem, wp_ineg, wp_iand, wp_ior, wp_ixor, wp_ishl, wp_ishr, wp_getI, wp_putI, wp_getR, wp_goto, wp_goto_w, wq_if_eq, wq_if_ne, wq_if_lt, wq_if_ge, wq_if_gt, wq_if_le, wq_icmp_eq, wq_icmp_ne, wq_icmp_lt, wq_icmp_ge, wq_icmp_gt, wq_icmp_le, wp_max, wp_min, kI_inl, kR_some, kN_inl, kO_some, KT_none, KT_some, List.length_cons, List.length_nil, Nat.reduceAdd, Nat.reduceLT, Nat.reduceLeDiff, Nat.reduceMod, Nat.reduceDiv, true_and, and_true, Int.reduceLE, Int.reduceNeg, Int.reduceLT, Int.cast_ofNat_Int, Nat.zero_le, zI, Int.reduceAdd, Int.reduceSub, Int.reduceMul, not_true_eq_false, not_false_eq_true, false_implies, true_implies, i01_0, i01_1, ite_not, ↓reduceIte, zget_0, zget_1, zget_2, zget_3, zget_4, zget_5, zget_6, zget_7, zget_8, zget_9, zget_10, zset_0, zset_1, zset_2, zset_3, zset_4, zset_5, zset_6, zset_7, zset_8, zset_9, zset_10, kd_171, rf_171_0, rf_171_1, rf_171_3, rf_171_4, rf_171_5, rf_171_6, rf_171_7, rf_171_8, rf_171_10, rf_171_13, rf_171_14, rf_171_15, rf_171_16, rf_171_17, rf_171_20, rf_171_21, rf_171_27, rf_171_28, rf_171_29, rf_171_30, rf_171_31, c_epM, if_pos c, show ¬ (1 : Int) = 0 by omega, not_false_eq_true, if_true, hle, hps, hgp']
    by_cases c2 : gpC (psM (leX im)) ≤ 0
    · rw [ei1 (fun q => absurd q.1 (by omega))]
      simp (disch := omega) only [wp_ireturn rk_255, pg_255_11, pg_255_44, pg_255_45, pg_255_75, pg_255_113, pg_255_114, pg_255_131, pg_255_132, pg_255_134, pg_255_140, cw_143, cw_145, cw_147, cw_187, cw_252, cw_253, cw_254, cw_147, wp_iload, wp_aload, wp_istore, wp_astore, wp_iinc, wp_iconst, wp_dup, wp_dup2, wp_pop, wp_iadd, wp_isub, wp_imul, wp_idiv, wp_irem, wp_ineg, wp_iand, wp_ior, wp_ixor, wp_ishl, wp_ishr, wp_getI, wp_putI, wp_getR, wp_goto, wp_goto_w, wq_if_eq, wq_if_ne, wq_if_lt, wq_if_ge, wq_if_gt, wq_if_le, wq_icmp_eq, wq_icmp_ne, wq_icmp_lt, wq_icmp_ge, wq_icmp_gt, wq_icmp_le, wp_max, wp_min, kI_inl, kR_some, kN_inl, kO_some, KT_none, KT_some, List.length_cons, List.length_nil, Nat.reduceAdd, Nat.reduceLT, Nat.reduceLeDiff, Nat.reduceMod, Nat.reduceDiv, true_and, and_true, Int.reduceLE, Int.reduceNeg, Int.reduceLT, Int.cast_ofNat_Int, Nat.zero_le, zI, Int.reduceAdd, Int.reduceSub, Int.reduceMul, not_true_eq_false, not_false_eq_true, false_implies, true_implies, i01_0, i01_1, ite_not, ↓reduceIte, zget_0, zget_1, zget_2, zget_3, zget_4, zget_5, zget_6, zget_7, zget_8, zget_9, zget_10, zset_0, zset_1, zset_2, zset_3, zset_4, zset_5, zset_6, zset_7, zset_8, zset_9, zset_10, kd_171, rf_171_0, rf_171_1, rf_171_3, rf_171_4, rf_171_5, rf_171_6, rf_171_7, rf_171_8, rf_171_10, rf_171_13, rf_171_14, rf_171_15, rf_171_16, rf_171_17, rf_171_20, rf_171_21, rf_171_27, rf_171_28, rf_171_29, rf_171_30, rf_171_31, c2, if_true]
      exact hbl _
    · by_cases c3 : onM (goA (psM (leX im))) dv
      · rw [ei2 ⟨by omega, c3⟩]
        have e50 : ∀ x3, wp none (d + 6) 255 (zpg 255 50) [.inr (some 171), .inl dv, .inl (leW im).1, x3, .inl (-1), .inl 1, .inl 0] [] (gpM (psM (leX im))) (fun r Y => r = some (.inl (-1)) ∧ AgE Y im) := by
          intro x3
          rw [pg_255_50]
          by_cases c5 : (leW im).1 ≤ 0
          · simp (disch := omega) only [wp_iload, wp_aload, wp_istore, wp_astore, wp_iinc, wp_iconst, wp_dup, wp_dup2, wp_pop, wp_iadd, wp_isub, wp_imul, wp_idiv, wp_irem, wp_ineg, wp_iand, wp_ior, wp_ixor, wp_ishl, wp_ishr, wp_getI, wp_putI, wp_getR, wp_goto, wp_goto_w, wq_if_eq, wq_if_ne, wq_if_lt, wq_if_ge, wq_if_gt, wq_if_le, wq_icmp_eq, wq_icmp_ne, wq_icmp_lt, wq_icmp_ge, wq_icmp_gt, wq_icmp_le, wp_max, wp_min, kI_inl, kR_some, kN_inl, kO_some, KT_none, KT_some, List.length_cons, List.length_nil, Nat.reduceAdd, Nat.reduceLT, Nat.reduceLeDiff, Nat.reduceMod, Nat.reduceDiv, true_and, and_true, Int.reduceLE, Int.reduceNeg, Int.reduceLT, Int.cast_ofNat_Int, Nat.zero_le, zI, Int.reduceAdd, Int.reduceSub, Int.reduceMul, not_true_eq_false, not_false_eq_true, false_implies, true_implies, i01_0, i01_1, ite_not, ↓reduceIte, zget_0, zget_1, zget_2, zget_3, zget_4, zget_5, zget_6, zget_7, zget_8, zget_9, zget_10, zset_0, zset_1, zset_2, zset_3, zset_4, zset_5, zset_6, zset_7, zset_8, zset_9, zset_10, c5, if_true]
            exact he _ _ _
          · simp (disch := omega) only [wp_iload, wp_aload, wp_istore, wp_astore, wp_iinc, wp_iconst, wp_dup, wp_dup2, wp_pop, wp_iadd, wp_isub, wp_imul, wp_idiv, wp_irem, wp_ineg, wp_iand, wp_ior, wp_ixor, wp_ishl, wp_ishr, wp_getI, wp_putI, wp_getR, wp_goto, wp_goto_w, wq_if_eq, wq_if_ne, wq_if_lt, wq_if_ge, wq_if_gt, wq_if_le, wq_icmp_eq, wq_icmp_ne, wq_icmp_lt, wq_icmp_ge, wq_icmp_gt, wq_icmp_le, wp_max, wp_min, kI_inl, kR_some, kN_inl, kO_some, KT_none, KT_some, List.length_cons, List.length_nil, Nat.reduceAdd, Nat.reduceLT, Nat.reduceLeDiff, Nat.reduceMod, Nat.reduceDiv, true_and, and_true, Int.reduceLE, Int.reduceNeg, Int.reduceLT, Int.cast_ofNat_Int, Nat.zero_le, zI, Int.reduceAdd, Int.reduceSub, Int.reduceMul, not_true_eq_false, not_false_eq_true, false_implies, true_implies, i01_0, i01_1, ite_not, ↓reduceIte, zget_0, zget_1, zget_2, zget_3, zget_4, zget_5, zget_6, zget_7, zget_8, zget_9, zget_10, zset_0, zset_1, zset_2, zset_3, zset_4, zset_5, zset_6, zset_7, zset_8, zset_9, zset_10, c5, if_false, show ¬ (1 : Int) = 0 by omega, not_false_eq_true, if_true]
            exact he _ _ _
        simp (disch := omega) only [wp_ireturn rk_255, pg_255_11, pg_255_44, pg_255_45, pg_255_75, pg_255_113, pg_255_114, pg_255_131, pg_255_132, pg_255_134, pg_255_140, cw_143, cw_145, cw_147, cw_187, cw_252, cw_253, cw_254, cw_147, wp_iload, wp_aload, wp_istore, wp_astore, wp_iinc, wp_iconst, wp_dup, wp_dup2, wp_pop, wp_iadd, wp_isub, wp_imul, wp_idiv, wp_irem, wp_ineg, wp_iand, wp_ior, wp_ixor, wp_ishl, wp_ishr, wp_getI, wp_putI, wp_getR, wp_goto, wp_goto_w, wq_if_eq, wq_if_ne, wq_if_lt, wq_if_ge, wq_if_gt, wq_if_le, wq_icmp_eq, wq_icmp_ne, wq_icmp_lt, wq_icmp_ge, wq_icmp_gt, wq_icmp_le, wp_max, wp_min, kI_inl, kR_some, kN_inl, kO_some, KT_none, KT_some, List.length_cons, List.length_nil, Nat.reduceAdd, Nat.reduceLT, Nat.reduceLeDiff, Nat.reduceMod, Nat.reduceDiv, true_and, and_true, Int.reduceLE, Int.reduceNeg, Int.reduceLT, Int.cast_ofNat_Int, Nat.zero_le, zI, Int.reduceAdd, Int.reduceSub, Int.reduceMul, not_true_eq_false, not_false_eq_true, false_implies, true_implies, i01_0, i01_1, ite_not, ↓reduceIte, zget_0, zget_1, zget_2, zget_3, zget_4, zget_5, zget_6, zget_7, zget_8, zget_9, zget_10, zset_0, zset_1, zset_2, zset_3, zset_4, zset_5, zset_6, zset_7, zset_8, zset_9, zset_10, kd_171, rf_171_0, rf_171_1, rf_171_3, rf_171_4, rf_171_5, rf_171_6, rf_171_7, rf_171_8, rf_171_10, rf_171_13, rf_171_14, rf_171_15, rf_171_16, rf_171_17, rf_171_20, rf_171_21, rf_171_27, rf_171_28, rf_171_29, rf_171_30, rf_171_31, c2, if_false, hon, if_pos c3, show ¬ (1 : Int) = 0 by omega]
        exact e50 _
      · rw [ei1 (fun q => c3 q.2)]
        simp (disch := omega) only [wp_ireturn rk_255, pg_255_11, pg_255_44, pg_255_45, pg_255_75, pg_255_113, pg_255_114, pg_255_131, pg_255_132, pg_255_134, pg_255_140, cw_143, cw_145, cw_147, cw_187, cw_252, cw_253, cw_254, cw_147, wp_iload, wp_aload, wp_istore, wp_astore, wp_iinc, wp_iconst, wp_dup, wp_dup2, wp_pop, wp_iadd, wp_isub, wp_imul, wp_idiv, wp_irem, wp_ineg, wp_iand, wp_ior, wp_ixor, wp_ishl, wp_ishr, wp_getI, wp_putI, wp_getR, wp_goto, wp_goto_w, wq_if_eq, wq_if_ne, wq_if_lt, wq_if_ge, wq_if_gt, wq_if_le, wq_icmp_eq, wq_icmp_ne, wq_icmp_lt, wq_icmp_ge, wq_icmp_gt, wq_icmp_le, wp_max, wp_min, kI_inl, kR_some, kN_inl, kO_some, KT_none, KT_some, List.length_cons, List.length_nil, Nat.reduceAdd, Nat.reduceLT, Nat.reduceLeDiff, Nat.reduceMod, Nat.reduceDiv, true_and, and_true, Int.reduceLE, Int.reduceNeg, Int.reduceLT, Int.cast_ofNat_Int, Nat.zero_le, zI, Int.reduceAdd, Int.reduceSub, Int.reduceMul, not_true_eq_false, not_false_eq_true, false_implies, true_implies, i01_0, i01_1, ite_not, ↓reduceIte, zget_0, zget_1, zget_2, zget_3, zget_4, zget_5, zget_6, zget_7, zget_8, zget_9, zget_10, zset_0, zset_1, zset_2, zset_3, zset_4, zset_5, zset_6, zset_7, zset_8, zset_9, zset_10, kd_171, rf_171_0, rf_171_1, rf_171_3, rf_171_4, rf_171_5, rf_171_6, rf_171_7, rf_171_8, rf_171_10, rf_171_13, rf_171_14, rf_171_15, rf_171_16, rf_171_17, rf_171_20, rf_171_21, rf_171_27, rf_171_28, rf_171_29, rf_171_30, rf_171_31, c2, if_false, hon, if_neg c3, if_true]
        exact hbl _
  · rw [if_neg c]
    simp (disch := omega) only [en_255, wp_ireturn rk_255, pg_255_0, pg_255_11, pg_255_44, pg_255_45, pg_255_75, pg_255_113, pg_255_114, pg_255_131, pg_255_132, pg_255_134, pg_255_140, cw_143, cw_145, cw_147, cw_187, cw_252, cw_253, cw_254, wp_iload, wp_aload, wp_istore, wp_astore, wp_iinc, wp_iconst, wp_dup, wp_dup2, wp_pop, wp_iadd, wp_isub, wp_imul, wp_idiv, wp_irem, wp_ineg, wp_iand, wp_ior, wp_ixor, wp_ishl, wp_ishr, wp_getI, wp_putI, wp_getR, wp_goto, wp_goto_w, wq_if_eq, wq_if_ne, wq_if_lt, wq_if_ge, wq_if_gt, wq_if_le, wq_icmp_eq, wq_icmp_ne, wq_icmp_lt, wq_icmp_ge, wq_icmp_gt, wq_icmp_le, wp_max, wp_min, kI_inl, kR_some, kN_inl, kO_some, KT_none, KT_some, List.length_cons, List.length_nil, Nat.reduceAdd, Nat.reduceLT, Nat.reduceLeDiff, Nat.reduceMod, Nat.reduceDiv, true_and, and_true, Int.reduceLE, Int.reduceNeg, Int.reduceLT, Int.cast_ofNat_Int, Nat.zero_le, zI, Int.reduceAdd, Int.reduceSub, Int.reduceMul, not_true_eq_false, not_false_eq_true, false_implies, true_implies, i01_0, i01_1, ite_not, ↓reduceIte, zget_0, zget_1, zget_2, zget_3, zget_4, zget_5, zget_6, zget_7, zget_8, zget_9, zget_10, zset_0, zset_1, zset_2, zset_3, zset_4, zset_5, zset_6, zset_7, zset_8, zset_9, zset_10, kd_171, rf_171_0, rf_171_1, rf_171_3, rf_171_4, rf_171_5, rf_171_6, rf_171_7, rf_171_8, rf_171_10, rf_171_13, rf_171_14, rf_171_15, rf_171_16, rf_171_17, rf_171_20, rf_171_21, rf_171_27, rf_171_28, rf_171_29, rf_171_30, rf_171_31, c_epM, if_neg c, not_true_eq_false, if_false]
    exact ⟨fun _ _ => rfl, ⟨rfl, rfl⟩, fun _ _ _ => rfl, rfl, id⟩
end MZ2
