/-! THE REFERENCE: REBALANCE -/
section MR4
variable {d : Nat} {im : zM} {Q : Option zV → zM → Prop} {a b v dv kd sl i j k f e bu t : Int}
theorem lmM_ok {A M : Int → Int} (hg : MG A) (hb : 0 ≤ bu ∧ bu ≤ 20) (hz : ∀ e, thM A e → MZ A e) (hp : TkP A bu k) : MoK A (lmM A M bu k).1 (lmM A M bu k).2 := by
  have h := lp_ind (lmS A bu k) (fun y => 0 ≤ y.2 ∧ MoK A y.1 y.2) 8 0 (M, 0) ⟨Int.le_refl _, fun i h0 h1 => by dsimp only at h1; omega⟩ (fun s y _ _ hy => by
    unfold lmS
    split
    · rename_i hc
      have hfc := ff_cases (isM A (bnM bu) s) 20 0
      generalize hD : ff (isM A (bnM bu) s) 20 0 = D at *
      have hd : 0 ≤ D ∧ D < 20 := by omega
      have hm := MG_many hg hd
      have hat : A (23 * D + 2) = bnM bu := by
        rcases hfc with q | q
        · omega
        · exact (of_decide_eq_true q.2.2).2.1
      have hbu : buM A D = bu := by
        unfold buM
        unfold bnM at hat
        split at hat
        · rw [if_pos (by omega)]
          omega
        · rw [if_neg (by omega)]
          exact hat
      have hpp := (hp D hc.2 hbu).1
      exact lp_ind (lmA A D k) (fun y => 0 ≤ y.2 ∧ MoK A y.1 y.2) (A (23 * D + 5)).toNat 0 y hy (fun a y h0 h1 hy => by
        unfold lmA
        split
        · rename_i hk
          refine ⟨by dsimp only; omega, fun i q0 q1 => ?_⟩
          dsimp only at q1 ⊢
          by_cases c : i = y.2
          · rw [c, ups_at]
            have hpa := hpp a h0 (by omega) hk
            have hsa := hz D hc.2.1 a h0 (by omega)
            have hap := MG_ap hg hd (a := a) (by omega)
            have e1 : (3 * D + a) / 3 = D := by omega
            have e2 : (3 * D + a) % 3 = a := by omega
            unfold bsT szT
            rw [e1, e2]
            omega
          · rw [ups_ne _ _ c]
            exact hy.2 i q0 (by omega)
        · exact hy)
    · exact hy)
  exact h.2
def fwS (A : Int → Int) (dv bu k : Int) : Nat → Int → zRb → Int × zRb
  | 0, _, r => (0, r)
  | m + 1, n, r => if n ≤ r.2.2.2.2.2.1 then (if (rtS A dv bu k 10000 (rFr r n)).1 = 1 then rtS A dv bu k 10000 (rFr r n) else fwS A dv bu k m (n + 1) (rtS A dv bu k 10000 (rFr r n)).2) else fwS A dv bu k m (n + 1) (rFr r n)
theorem fr_val : ∀ (n : Nat) (i : Int) (c : Int → Int) (j : Int), lp (fun i c => ups c i i) n i c j = if i ≤ j ∧ j < i + n then j else c j
  | 0, i, c, j => by rw [if_neg (by omega)]; rfl
  | n + 1, i, c, j => by
    simp only [lp]
    rw [fr_val n (i + 1) (ups c i i) j, ups_val]
    grind
theorem rF_ok {R : Int → Int} {n nm : Int} (hn : 0 ≤ n ∧ n ≤ 3) (hm : n ≤ nm) (hR : ∀ j : Int, 0 ≤ j → j < 3 → 0 ≤ R j ∧ R j ≤ 100) : RwV nm n (lp (fun i c => ups c i i) n.toNat 0 R) := by
  refine ⟨fun j h0 h1 => ?_, fun j h0 h1 => ?_⟩
  · rw [fr_val, if_pos (by omega)]
    omega
  · have := hR j h0 h1
    rw [fr_val]
    split <;> omega
theorem l_fw {X : zM} {A : Int → Int} (hX : X 172 = A) (hg : MG A) (hd : 0 ≤ dv ∧ dv < 20) (hz : MZ A dv) (hb : 0 ≤ bu ∧ bu ≤ 20) (hk : 0 ≤ k ∧ k < 2) (hw : BwM A bu k) (hp : TkP A bu k) {M : Int → Int} {nm : Int} (hm : 0 ≤ nm ∧ nm ≤ 24) (hM : MoK A M nm) : ∀ (m : Nat) (n : Int) (r : zRb) (x5 : zV), 0 ≤ n → n + m = 4 → r.2.2.1 = M → r.2.2.2.2.2.1 = nm → (∀ j : Int, 0 ≤ j → j < 3 → 0 ≤ r.2.2.2.1 j ∧ r.2.2.2.1 j ≤ 100) → ((fwS A dv bu k m n r).1 = 1 ∨ (fwS A dv bu k m n r).1 = 0) ∧ ((fwS A dv bu k m n r).1 = 1 → RvI M nm (fwS A dv bu k m n r).2.2.2.2.2.2.2 (fwS A dv bu k m n r).2 ∧ 0 ≤ (fwS A dv bu k m n r).2.2.2.2.2.2.2 ∧ (fwS A dv bu k m n r).2.2.2.2.2.2.2 ≤ 3) ∧ (∀ j : Int, 0 ≤ j → j < 3 → 0 ≤ (fwS A dv bu k m n r).2.2.2.2.1 j ∧ (fwS A dv bu k m n r).2.2.2.2.1 j ≤ 100) ∧ ∀ Q, wp none (d + 5) 218 (zpg 218 9) [.inr (some 171), .inl dv, .inl bu, .inl k, .inl n, x5] [] (rbm X r) Q ↔ Q (some (.inl (fwS A dv bu k m n r).1)) (rbm X (fwS A dv bu k m n r).2)
  | 0, n, r, x5, h0, h1, e1, e2, hR => by
    refine ⟨Or.inr rfl, fun q => ?_, hR, fun Q => ?_⟩
    · have q2 : (0 : Int) = 1 := q
      omega
    · rw [pg_218_9]
      simp (disch := omega) only [wp_zreturn rk_218, pg_218_40, pg_218_49, pg_218_55, cw_210, cw_213, cw_214, cw_216, wp_iload, wp_aload, wp_istore, wp_astore, wp_iinc, wp_iconst, wp_dup, wp_dup2, wp_pop, wp_iadd, wp_isub, wp_imul, wp_idiv, wp_irem, wp_ineg, wp_iand, wp_ior, wp_ixor, wp_ishl, wp_ishr, wp_getI, wp_putI, wp_getR, wp_goto, wp_goto_w, wq_if_eq, wq_if_ne, wq_if_lt, wq_if_ge, wq_if_gt, wq_if_le, wq_icmp_eq, wq_icmp_ne, wq_icmp_lt, wq_icmp_ge, wq_icmp_gt, wq_icmp_le, wp_max, wp_min, kI_inl, kR_some, kN_inl, kO_some, KT_none, KT_some, List.length_cons, List.length_nil, Nat.reduceAdd, Nat.reduceLT, Nat.reduceLeDiff, Nat.reduceMod, Nat.reduceDiv, true_and, and_true, Int.reduceLE, Int.reduceNeg, Int.reduceLT, Int.cast_ofNat_Int, Nat.zero_le, zI, Int.reduceAdd, Int.reduceSub, Int.reduceMul, not_true_eq_false, not_false_eq_true, false_implies, true_implies, i01_0, i01_1, ite_not, ↓reduceIte, zget_0, zget_1, zget_2, zget_3, zget_4, zget_5, zget_6, zget_7, zget_8, zget_9, zget_10, zset_0, zset_1, zset_2, zset_3, zset_4, zset_5, zset_6, zset_7, zset_8, zset_9, zset_10, show 3 < n by omega, if_true, true_or, true_and, fwS]
  | m + 1, n, r, x5, h0, h1, e1, e2, hR => by
    have hfr := fun Q => c_firstRow (d := d + 4) (X := X) (n := n) (Q := Q) (by omega) (r := r)
    rw [e2] at hfr
    by_cases c : n ≤ nm
    · have hv := rF_ok (R := r.2.2.2.1) (n := n) (nm := nm) (by omega) c hR
      have hpo := poR_bd (nt := n) (by omega) ⟨c, hm.2⟩ hv
      have hrt := l_rt (d := d) hX hg hd hz hb hk hw hp (nt := n) (by omega) ⟨c, hm.2⟩ hM 10000 (rFr r n) ⟨e1, e2, rfl, hv⟩ (by show poR nm n _ < ((10000 : Nat) : Int); have := hpo.2; omega)
      have es : ∀ Q, wp none (d + 5) 218 (zpg 218 9) [.inr (some 171), .inl dv, .inl bu, .inl k, .inl n, x5] [] (rbm X r) Q ↔ wp none (d + 5) 218 (zpg 218 23) [.inr (some 171), .inl dv, .inl bu, .inl k, .inl n, .inl 1] [] (rbm X (rFr r n)) Q := by
        intro Q
        conv => lhs; rw [pg_218_9]
        simp (disch := omega) only [cw_213, wp_iload, wp_aload, wp_istore, wp_astore, wp_iinc, wp_iconst, wp_dup, wp_dup2, wp_pop, wp_iadd, wp_isub, wp_imul, wp_idiv, wp_irem, wp_ineg, wp_iand, wp_ior, wp_ixor, wp_ishl, wp_ishr, wp_getI, wp_putI, wp_getR, wp_goto, wp_goto_w, wq_if_eq, wq_if_ne, wq_if_lt, wq_if_ge, wq_if_gt, wq_if_le, wq_icmp_eq, wq_icmp_ne, wq_icmp_lt, wq_icmp_ge, wq_icmp_gt, wq_icmp_le, wp_max, wp_min, kI_inl, kR_some, kN_inl, kO_some, KT_none, KT_some, List.length_cons, List.length_nil, Nat.reduceAdd, Nat.reduceLT, Nat.reduceLeDiff, Nat.reduceMod, Nat.reduceDiv, true_and, and_true, Int.reduceLE, Int.reduceNeg, Int.reduceLT, Int.cast_ofNat_Int, Nat.zero_le, zI, Int.reduceAdd, Int.reduceSub, Int.reduceMul, not_true_eq_false, not_false_eq_true, false_implies, true_implies, i01_0, i01_1, ite_not, ↓reduceIte, zget_0, zget_1, zget_2, zget_3, zget_4, zget_5, zget_6, zget_7, zget_8, zget_9, zget_10, zset_0, zset_1, zset_2, zset_3, zset_4, zset_5, zset_6, zset_7, zset_8, zset_9, zset_10, kd_171, rf_171_0, rf_171_1, rf_171_3, rf_171_4, rf_171_5, rf_171_6, rf_171_7, rf_171_8, rf_171_10, rf_171_13, rf_171_14, rf_171_15, rf_171_16, rf_171_17, rf_171_20, rf_171_21, rf_171_27, rf_171_28, rf_171_29, rf_171_30, rf_171_31, show ¬ 3 < n by omega, if_false, hfr, if_pos c]
      by_cases c2 : (rtS A dv bu k 10000 (rFr r n)).1 = 1
      · have ec : fwS A dv bu k (m + 1) n r = rtS A dv bu k 10000 (rFr r n) := by simp only [fwS, e2, if_pos c, if_pos c2]
        rw [ec]
        have e7 : (rtS A dv bu k 10000 (rFr r n)).2.2.2.2.2.2.2 = n := hrt.1.2.2.1
        refine ⟨Or.inl c2, fun _ => ⟨by rw [e7]; exact hrt.1, by omega, by omega⟩, hrt.1.2.2.2.2, fun Q => ?_⟩
        rw [es, hrt.2.2.1 c2, c2]
      · have ec : fwS A dv bu k (m + 1) n r = fwS A dv bu k m (n + 1) (rtS A dv bu k 10000 (rFr r n)).2 := by simp only [fwS, e2, if_pos c, if_neg c2]
        have ih := fun x5 => l_fw hX hg hd hz hb hk hw hp hm hM m (n + 1) (rtS A dv bu k 10000 (rFr r n)).2 x5 (by omega) (by omega) hrt.1.1 hrt.1.2.1 hrt.1.2.2.2.2
        rw [ec]
        refine ⟨(ih (.inr none)).1, (ih (.inr none)).2.1, (ih (.inr none)).2.2.1, fun Q => ?_⟩
        rw [es, hrt.2.2.2 (hrt.2.1.resolve_left c2), ← (ih (.inl 0)).2.2.2 Q]
        conv => lhs; rw [pg_218_49]
        simp (disch := omega) only [wp_iload, wp_aload, wp_istore, wp_astore, wp_iinc, wp_iconst, wp_dup, wp_dup2, wp_pop, wp_iadd, wp_isub, wp_imul, wp_idiv, wp_irem, wp_ineg, wp_iand, wp_ior, wp_ixor, wp_ishl, wp_ishr, wp_getI, wp_putI, wp_getR, wp_goto, wp_goto_w, wq_if_eq, wq_if_ne, wq_if_lt, wq_if_ge, wq_if_gt, wq_if_le, wq_icmp_eq, wq_icmp_ne, wq_icmp_lt, wq_icmp_ge, wq_icmp_gt, wq_icmp_le, wp_max, wp_min, kI_inl, kR_some, kN_inl, kO_some, KT_none, KT_some, List.length_cons, List.length_nil, Nat.reduceAdd, Nat.reduceLT, Nat.reduceLeDiff, Nat.reduceMod, Nat.reduceDiv, true_and, and_true, Int.reduceLE, Int.reduceNeg, Int.reduceLT, Int.cast_ofNat_Int, Nat.zero_le, zI, Int.reduceAdd, Int.reduceSub, Int.reduceMul, not_true_eq_false, not_false_eq_true, false_implies, true_implies, i01_0, i01_1, ite_not, ↓reduceIte, zget_0, zget_1, zget_2, zget_3, zget_4, zget_5, zget_6, zget_7, zget_8, zget_9, zget_10, zset_0, zset_1, zset_2, zset_3, zset_4, zset_5, zset_6, zset_7, zset_8, zset_9, zset_10]
        try (repeat (refine (and_iff_right (by omega)).trans ?_))
        try exact Iff.rfl
    · have ec : fwS A dv bu k (m + 1) n r = fwS A dv bu k m (n + 1) (rFr r n) := by simp only [fwS, e2, if_neg c]
      have hR2 : ∀ j : Int, 0 ≤ j → j < 3 → 0 ≤ (rFr r n).2.2.2.1 j ∧ (rFr r n).2.2.2.1 j ≤ 100 := by
        intro j q0 q1
        have := hR j q0 q1
        show 0 ≤ lp (fun i c => ups c i i) n.toNat 0 r.2.2.2.1 j ∧ lp (fun i c => ups c i i) n.toNat 0 r.2.2.2.1 j ≤ 100
        rw [fr_val]
        split <;> omega
      have ih := fun x5 => l_fw hX hg hd hz hb hk hw hp hm hM m (n + 1) (rFr r n) x5 (by omega) (by omega) e1 e2 hR2
      rw [ec]
      refine ⟨(ih (.inr none)).1, (ih (.inr none)).2.1, (ih (.inr none)).2.2.1, fun Q => ?_⟩
      rw [← (ih (.inl 0)).2.2.2 Q]
      conv => lhs; rw [pg_218_9]
      simp (disch := omega) only [cw_213, wp_iload, wp_aload, wp_istore, wp_astore, wp_iinc, wp_iconst, wp_dup, wp_dup2, wp_pop, wp_iadd, wp_isub, wp_imul, wp_idiv, wp_irem, wp_ineg, wp_iand, wp_ior, wp_ixor, wp_ishl, wp_ishr, wp_getI, wp_putI, wp_getR, wp_goto, wp_goto_w, wq_if_eq, wq_if_ne, wq_if_lt, wq_if_ge, wq_if_gt, wq_if_le, wq_icmp_eq, wq_icmp_ne, wq_icmp_lt, wq_icmp_ge, wq_icmp_gt, wq_icmp_le, wp_max, wp_min, kI_inl, kR_some, kN_inl, kO_some, KT_none, KT_some, List.length_cons, List.length_nil, Nat.reduceAdd, Nat.reduceLT, Nat.reduceLeDiff, Nat.reduceMod, Nat.reduceDiv, true_and, and_true, Int.reduceLE, Int.reduceNeg, Int.reduceLT, Int.cast_ofNat_Int, Nat.zero_le, zI, Int.reduceAdd, Int.reduceSub, Int.reduceMul, not_true_eq_false, not_false_eq_true, false_implies, true_implies, i01_0, i01_1, ite_not, ↓reduceIte, zget_0, zget_1, zget_2, zget_3, zget_4, zget_5, zget_6, zget_7, zget_8, zget_9, zget_10, zset_0, zset_1, zset_2, zset_3, zset_4, zset_5, zset_6, zset_7, zset_8, zset_9, zset_10, kd_171, rf_171_0, rf_171_1, rf_171_3, rf_171_4, rf_171_5, rf_171_6, rf_171_7, rf_171_8, rf_171_10, rf_171_13, rf_171_14, rf_171_15, rf_171_16, rf_171_17, rf_171_20, rf_171_21, rf_171_27, rf_171_28, rf_171_29, rf_171_30, rf_171_31, show ¬ 3 < n by omega, if_false, hfr, if_neg c]
      conv => lhs; rw [pg_218_23]
      simp (disch := omega) only [pg_218_49, wp_iload, wp_aload, wp_istore, wp_astore, wp_iinc, wp_iconst, wp_dup, wp_dup2, wp_pop, wp_iadd, wp_isub, wp_imul, wp_idiv, wp_irem, wp_ineg, wp_iand, wp_ior, wp_ixor, wp_ishl, wp_ishr, wp_getI, wp_putI, wp_getR, wp_goto, wp_goto_w, wq_if_eq, wq_if_ne, wq_if_lt, wq_if_ge, wq_if_gt, wq_if_le, wq_icmp_eq, wq_icmp_ne, wq_icmp_lt, wq_icmp_ge, wq_icmp_gt, wq_icmp_le, wp_max, wp_min, kI_inl, kR_some, kN_inl, kO_some, KT_none, KT_some, List.length_cons, List.length_nil, Nat.reduceAdd, Nat.reduceLT, Nat.reduceLeDiff, Nat.reduceMod, Nat.reduceDiv, true_and, and_true, Int.reduceLE, Int.reduceNeg, Int.reduceLT, Int.cast_ofNat_Int, Nat.zero_le, zI, Int.reduceAdd, Int.reduceSub, Int.reduceMul, not_true_eq_false, not_false_eq_true, false_implies, true_implies, i01_0, i01_1, ite_not, ↓reduceIte, zget_0, zget_1, zget_2, zget_3, zget_4, zget_5, zget_6, zget_7, zget_8, zget_9, zget_10, zset_0, zset_1, zset_2, zset_3, zset_4, zset_5, zset_6, zset_7, zset_8, zset_9, zset_10, if_true]
      try (repeat (refine (and_iff_right (by omega)).trans ?_))
      try exact Iff.rfl
def frS (A : Int → Int) (dv bu k : Int) (r : zRb) : Int × zRb := fwS A dv bu k 4 0 (rMn r (lmM A r.2.2.1 bu k))
theorem c_findRowM {X : zM} {A : Int → Int} (hX : X 172 = A) (hg : MG A) (hd : 0 ≤ dv ∧ dv < 20) (hz : ∀ e, thM A e → MZ A e) (ht : thM A dv) (hb : 0 ≤ bu ∧ bu ≤ 20) (hk : 0 ≤ k ∧ k < 2) (hw : BwM A bu k) (hp : TkP A bu k) {r : zRb} (hR : ∀ j : Int, 0 ≤ j → j < 3 → 0 ≤ r.2.2.2.1 j ∧ r.2.2.2.1 j ≤ 100) : (∀ Q, CallP (d + 5) 218 [.inr (some 171), .inl dv, .inl bu, .inl k] (rbm X r) Q ↔ Q (some (.inl (frS A dv bu k r).1)) (rbm X (frS A dv bu k r).2)) ∧ ((frS A dv bu k r).1 = 1 ∨ (frS A dv bu k r).1 = 0) ∧ ((frS A dv bu k r).1 = 1 → RvI (lmM A r.2.2.1 bu k).1 (lmM A r.2.2.1 bu k).2 (frS A dv bu k r).2.2.2.2.2.2.2 (frS A dv bu k r).2 ∧ 0 ≤ (frS A dv bu k r).2.2.2.2.2.2.2 ∧ (frS A dv bu k r).2.2.2.2.2.2.2 ≤ 3) ∧ (∀ j : Int, 0 ≤ j → j < 3 → 0 ≤ (frS A dv bu k r).2.2.2.2.1 j ∧ (frS A dv bu k r).2.2.2.2.1 j ≤ 100) ∧ MoK A (lmM A r.2.2.1 bu k).1 (lmM A r.2.2.1 bu k).2 ∧ (lmM A r.2.2.1 bu k).2 ≤ 24 := by
  have hlm := fun Q => (c_layMovable (d := d + 1) (k := k) (Q := Q) hX hg hb (r := r)).1
  obtain ⟨-, hl2⟩ := c_layMovable (d := d + 1) (k := k) (Q := fun _ _ => True) hX hg hb (r := r)
  have hM := lmM_ok (M := r.2.2.1) hg hb hz hp
  have hf := l_fw (d := d) hX hg hd (hz dv ht) hb hk hw hp hl2 hM 4 0 (rMn r (lmM A r.2.2.1 bu k)) (.inr none) (by omega) (by omega) rfl rfl hR
  refine ⟨fun Q => ?_, hf.1, hf.2.1, hf.2.2.1, hM, hl2.2⟩
  have h1 := hf.2.2.2 Q
  simp (disch := omega) only [en_218, pg_218_0, cw_210, wp_iload, wp_aload, wp_istore, wp_astore, wp_iinc, wp_iconst, wp_dup, wp_dup2, wp_pop, wp_iadd, wp_isub, wp_imul, wp_idiv, wp_irem, wp_ineg, wp_iand, wp_ior, wp_ixor, wp_ishl, wp_ishr, wp_getI, wp_putI, wp_getR, wp_goto, wp_goto_w, wq_if_eq, wq_if_ne, wq_if_lt, wq_if_ge, wq_if_gt, wq_if_le, wq_icmp_eq, wq_icmp_ne, wq_icmp_lt, wq_icmp_ge, wq_icmp_gt, wq_icmp_le, wp_max, wp_min, kI_inl, kR_some, kN_inl, kO_some, KT_none, KT_some, List.length_cons, List.length_nil, Nat.reduceAdd, Nat.reduceLT, Nat.reduceLeDiff, Nat.reduceMod, Nat.reduceDiv, true_and, and_true, Int.reduceLE, Int.reduceNeg, Int.reduceLT, Int.cast_ofNat_Int, Nat.zero_le, zI, Int.reduceAdd, Int.reduceSub, Int.reduceMul, not_true_eq_false, not_false_eq_true, false_implies, true_implies, i01_0, i01_1, ite_not, ↓reduceIte, zget_0, zget_1, zget_2, zget_3, zget_4, zget_5, zget_6, zget_7, zget_8, zget_9, zget_10, zset_0, zset_1, zset_2, zset_3, zset_4, zset_5, zset_6, zset_7, zset_8, zset_9, zset_10, kd_171, rf_171_0, rf_171_1, rf_171_3, rf_171_4, rf_171_5, rf_171_6, rf_171_7, rf_171_8, rf_171_10, rf_171_13, rf_171_14, rf_171_15, rf_171_16, rf_171_17, rf_171_20, rf_171_21, rf_171_27, rf_171_28, rf_171_29, rf_171_30, rf_171_31, hlm]
  exact h1
def mnB (A M R V : Int → Int) (i : Int) : Bool := decide (V i ≠ bsT A (M (R i)))
theorem l_mn {X : zM} {A : Int → Int} (hX : X 172 = A) {r : zRb} (hn : 0 ≤ r.2.2.2.2.2.2 ∧ r.2.2.2.2.2.2 ≤ 3) (hr : RoK r.2.2.1 r.2.2.2.1 r.2.2.2.2.2.2) : ∀ (n : Nat) (i s : Int), 0 ≤ i → i + n = r.2.2.2.2.2.2 → 0 ≤ s ∧ s ≤ i → ∀ Q, wp none (d + 2) 219 (zpg 219 4) [.inr (some 171), .inl s, .inl i] [] (rbm X r) Q ↔ Q (some (.inl (lp (cntf (mnB A r.2.2.1 r.2.2.2.1 r.2.2.2.2.1)) n i s))) (rbm X r)
  | 0, i, s, h0, h1, hs, Q => by
    rw [pg_219_4]
    simp (disch := omega) only [wp_ireturn rk_219, pg_219_41, pg_219_42, pg_219_50, cw_212, wp_iload, wp_aload, wp_istore, wp_astore, wp_iinc, wp_iconst, wp_dup, wp_dup2, wp_pop, wp_iadd, wp_isub, wp_imul, wp_idiv, wp_irem, wp_ineg, wp_iand, wp_ior, wp_ixor, wp_ishl, wp_ishr, wp_getI, wp_putI, wp_getR, wp_goto, wp_goto_w, wq_if_eq, wq_if_ne, wq_if_lt, wq_if_ge, wq_if_gt, wq_if_le, wq_icmp_eq, wq_icmp_ne, wq_icmp_lt, wq_icmp_ge, wq_icmp_gt, wq_icmp_le, wp_max, wp_min, kI_inl, kR_some, kN_inl, kO_some, KT_none, KT_some, List.length_cons, List.length_nil, Nat.reduceAdd, Nat.reduceLT, Nat.reduceLeDiff, Nat.reduceMod, Nat.reduceDiv, true_and, and_true, Int.reduceLE, Int.reduceNeg, Int.reduceLT, Int.cast_ofNat_Int, Nat.zero_le, zI, Int.reduceAdd, Int.reduceSub, Int.reduceMul, not_true_eq_false, not_false_eq_true, false_implies, true_implies, i01_0, i01_1, ite_not, ↓reduceIte, zget_0, zget_1, zget_2, zget_3, zget_4, zget_5, zget_6, zget_7, zget_8, zget_9, zget_10, zset_0, zset_1, zset_2, zset_3, zset_4, zset_5, zset_6, zset_7, zset_8, zset_9, zset_10, kd_171, rf_171_0, rf_171_1, rf_171_3, rf_171_4, rf_171_5, rf_171_6, rf_171_7, rf_171_8, rf_171_10, rf_171_13, rf_171_14, rf_171_15, rf_171_16, rf_171_17, rf_171_20, rf_171_21, rf_171_27, rf_171_28, rf_171_29, rf_171_30, rf_171_31, rbm_n, show r.2.2.2.2.2.2 ≤ i by omega, if_true, lp]
  | n + 1, i, s, h0, h1, hs, Q => by
    have ih := fun s => l_mn hX hn hr n (i + 1) s (by omega) (by omega)
    have hri := hr i h0 (by omega)
    have hbs := fun (t : Int) (h : 0 ≤ t ∧ t < 60) Q => c_baseOf (d := d) (im := rbm X r) (t := t) (Q := Q) h
    simp only [rbm_A, hX] at hbs
    rw [pg_219_4]
    by_cases c : r.2.2.2.2.1 i = bsT A (r.2.2.1 (r.2.2.2.1 i))
    · have ec : cntf (mnB A r.2.2.1 r.2.2.2.1 r.2.2.2.2.1) i s = s := if_neg (fun q => (of_decide_eq_true q) c)
      simp (disch := omega) only [wp_ireturn rk_219, pg_219_41, pg_219_42, pg_219_50, cw_212, wp_iload, wp_aload, wp_istore, wp_astore, wp_iinc, wp_iconst, wp_dup, wp_dup2, wp_pop, wp_iadd, wp_isub, wp_imul, wp_idiv, wp_irem, wp_ineg, wp_iand, wp_ior, wp_ixor, wp_ishl, wp_ishr, wp_getI, wp_putI, wp_getR, wp_goto, wp_goto_w, wq_if_eq, wq_if_ne, wq_if_lt, wq_if_ge, wq_if_gt, wq_if_le, wq_icmp_eq, wq_icmp_ne, wq_icmp_lt, wq_icmp_ge, wq_icmp_gt, wq_icmp_le, wp_max, wp_min, kI_inl, kR_some, kN_inl, kO_some, KT_none, KT_some, List.length_cons, List.length_nil, Nat.reduceAdd, Nat.reduceLT, Nat.reduceLeDiff, Nat.reduceMod, Nat.reduceDiv, true_and, and_true, Int.reduceLE, Int.reduceNeg, Int.reduceLT, Int.cast_ofNat_Int, Nat.zero_le, zI, Int.reduceAdd, Int.reduceSub, Int.reduceMul, not_true_eq_false, not_false_eq_true, false_implies, true_implies, i01_0, i01_1, ite_not, ↓reduceIte, zget_0, zget_1, zget_2, zget_3, zget_4, zget_5, zget_6, zget_7, zget_8, zget_9, zget_10, zset_0, zset_1, zset_2, zset_3, zset_4, zset_5, zset_6, zset_7, zset_8, zset_9, zset_10, kd_171, rf_171_0, rf_171_1, rf_171_3, rf_171_4, rf_171_5, rf_171_6, rf_171_7, rf_171_8, rf_171_10, rf_171_13, rf_171_14, rf_171_15, rf_171_16, rf_171_17, rf_171_20, rf_171_21, rf_171_27, rf_171_28, rf_171_29, rf_171_30, rf_171_31, rbm_n, rbm_V, rbm_M, rbm_R, wp_iaload kd_185, wp_iaload kd_183, wp_iaload kd_184, hbs, show ¬ r.2.2.2.2.2.2 ≤ i by omega, if_false, c, if_true, Int.add_zero, lp, ec]
      repeat (refine (and_iff_right (by omega)).trans ?_)
      exact ih s (by omega) Q
    · have ec : cntf (mnB A r.2.2.1 r.2.2.2.1 r.2.2.2.2.1) i s = s + 1 := if_pos (decide_eq_true c)
      simp (disch := omega) only [wp_ireturn rk_219, pg_219_41, pg_219_42, pg_219_50, cw_212, wp_iload, wp_aload, wp_istore, wp_astore, wp_iinc, wp_iconst, wp_dup, wp_dup2, wp_pop, wp_iadd, wp_isub, wp_imul, wp_idiv, wp_irem, wp_ineg, wp_iand, wp_ior, wp_ixor, wp_ishl, wp_ishr, wp_getI, wp_putI, wp_getR, wp_goto, wp_goto_w, wq_if_eq, wq_if_ne, wq_if_lt, wq_if_ge, wq_if_gt, wq_if_le, wq_icmp_eq, wq_icmp_ne, wq_icmp_lt, wq_icmp_ge, wq_icmp_gt, wq_icmp_le, wp_max, wp_min, kI_inl, kR_some, kN_inl, kO_some, KT_none, KT_some, List.length_cons, List.length_nil, Nat.reduceAdd, Nat.reduceLT, Nat.reduceLeDiff, Nat.reduceMod, Nat.reduceDiv, true_and, and_true, Int.reduceLE, Int.reduceNeg, Int.reduceLT, Int.cast_ofNat_Int, Nat.zero_le, zI, Int.reduceAdd, Int.reduceSub, Int.reduceMul, not_true_eq_false, not_false_eq_true, false_implies, true_implies, i01_0, i01_1, ite_not, ↓reduceIte, zget_0, zget_1, zget_2, zget_3, zget_4, zget_5, zget_6, zget_7, zget_8, zget_9, zget_10, zset_0, zset_1, zset_2, zset_3, zset_4, zset_5, zset_6, zset_7, zset_8, zset_9, zset_10, kd_171, rf_171_0, rf_171_1, rf_171_3, rf_171_4, rf_171_5, rf_171_6, rf_171_7, rf_171_8, rf_171_10, rf_171_13, rf_171_14, rf_171_15, rf_171_16, rf_171_17, rf_171_20, rf_171_21, rf_171_27, rf_171_28, rf_171_29, rf_171_30, rf_171_31, rbm_n, rbm_V, rbm_M, rbm_R, wp_iaload kd_185, wp_iaload kd_183, wp_iaload kd_184, hbs, show ¬ r.2.2.2.2.2.2 ≤ i by omega, if_false, c, lp, ec]
      repeat (refine (and_iff_right (by omega)).trans ?_)
      exact ih (s + 1) (by omega) Q
def mnM (A : Int → Int) (r : zRb) : Int := lp (cntf (mnB A r.2.2.1 r.2.2.2.1 r.2.2.2.2.1)) r.2.2.2.2.2.2.toNat 0 0
theorem c_movedNow {X : zM} {A : Int → Int} (hX : X 172 = A) {r : zRb} (hn : 0 ≤ r.2.2.2.2.2.2 ∧ r.2.2.2.2.2.2 ≤ 3) (hr : RoK r.2.2.1 r.2.2.2.1 r.2.2.2.2.2.2) : CallP (d + 2) 219 [.inr (some 171)] (rbm X r) Q ↔ Q (some (.inl (mnM A r))) (rbm X r) := by
  have hl := l_mn (d := d) hX hn hr r.2.2.2.2.2.2.toNat 0 0 (by omega) (by omega) (by omega) Q
  simp (disch := omega) only [en_219, pg_219_0, wp_iload, wp_aload, wp_istore, wp_astore, wp_iinc, wp_iconst, wp_dup, wp_dup2, wp_pop, wp_iadd, wp_isub, wp_imul, wp_idiv, wp_irem, wp_ineg, wp_iand, wp_ior, wp_ixor, wp_ishl, wp_ishr, wp_getI, wp_putI, wp_getR, wp_goto, wp_goto_w, wq_if_eq, wq_if_ne, wq_if_lt, wq_if_ge, wq_if_gt, wq_if_le, wq_icmp_eq, wq_icmp_ne, wq_icmp_lt, wq_icmp_ge, wq_icmp_gt, wq_icmp_le, wp_max, wp_min, kI_inl, kR_some, kN_inl, kO_some, KT_none, KT_some, List.length_cons, List.length_nil, Nat.reduceAdd, Nat.reduceLT, Nat.reduceLeDiff, Nat.reduceMod, Nat.reduceDiv, true_and, and_true, Int.reduceLE, Int.reduceNeg, Int.reduceLT, Int.cast_ofNat_Int, Nat.zero_le, zI, Int.reduceAdd, Int.reduceSub, Int.reduceMul, not_true_eq_false, not_false_eq_true, false_implies, true_implies, i01_0, i01_1, ite_not, ↓reduceIte, zget_0, zget_1, zget_2, zget_3, zget_4, zget_5, zget_6, zget_7, zget_8, zget_9, zget_10, zset_0, zset_1, zset_2, zset_3, zset_4, zset_5, zset_6, zset_7, zset_8, zset_9, zset_10]
  exact hl
theorem c_hasKind (hg : MG (im 172)) (hd : 0 ≤ dv ∧ dv < 20) : CallP (d + 2) 217 [.inr (some 171), .inl dv, .inl k] im Q ↔ Q (some (.inl (if 0 < unM (im 172) dv k then 1 else 0))) im := by
  have hun := fun Q => c_unM (d := d) (im := im) (dv := dv) (kd := k) (Q := Q) hg hd
  by_cases c : 0 < unM (im 172) dv k
  · rw [if_pos c]
    simp (disch := omega) only [en_217, wp_zreturn rk_217, pg_217_0, pg_217_13, pg_217_14, cw_184, wp_iload, wp_aload, wp_istore, wp_astore, wp_iinc, wp_iconst, wp_dup, wp_dup2, wp_pop, wp_iadd, wp_isub, wp_imul, wp_idiv, wp_irem, wp_ineg, wp_iand, wp_ior, wp_ixor, wp_ishl, wp_ishr, wp_getI, wp_putI, wp_getR, wp_goto, wp_goto_w, wq_if_eq, wq_if_ne, wq_if_lt, wq_if_ge, wq_if_gt, wq_if_le, wq_icmp_eq, wq_icmp_ne, wq_icmp_lt, wq_icmp_ge, wq_icmp_gt, wq_icmp_le, wp_max, wp_min, kI_inl, kR_some, kN_inl, kO_some, KT_none, KT_some, List.length_cons, List.length_nil, Nat.reduceAdd, Nat.reduceLT, Nat.reduceLeDiff, Nat.reduceMod, Nat.reduceDiv, true_and, and_true, Int.reduceLE, Int.reduceNeg, Int.reduceLT, Int.cast_ofNat_Int, Nat.zero_le, zI, Int.reduceAdd, Int.reduceSub, Int.reduceMul, not_true_eq_false, not_false_eq_true, false_implies, true_implies, i01_0, i01_1, ite_not, ↓reduceIte, zget_0, zget_1, zget_2, zget_3, zget_4, zget_5, zget_6, zget_7, zget_8, zget_9, zget_10, zset_0, zset_1, zset_2, zset_3, zset_4, zset_5, zset_6, zset_7, zset_8, zset_9, zset_10, kd_171, rf_171_0, rf_171_1, rf_171_3, rf_171_4, rf_171_5, rf_171_6, rf_171_7, rf_171_8, rf_171_10, rf_171_13, rf_171_14, rf_171_15, rf_171_16, rf_171_17, rf_171_20, rf_171_21, rf_171_27, rf_171_28, rf_171_29, rf_171_30, rf_171_31, hun, show ¬ unM (im 172) dv k ≤ 0 by omega, if_false, or_true, true_and]
  · rw [if_neg c]
    simp (disch := omega) only [en_217, wp_zreturn rk_217, pg_217_0, pg_217_13, pg_217_14, cw_184, wp_iload, wp_aload, wp_istore, wp_astore, wp_iinc, wp_iconst, wp_dup, wp_dup2, wp_pop, wp_iadd, wp_isub, wp_imul, wp_idiv, wp_irem, wp_ineg, wp_iand, wp_ior, wp_ixor, wp_ishl, wp_ishr, wp_getI, wp_putI, wp_getR, wp_goto, wp_goto_w, wq_if_eq, wq_if_ne, wq_if_lt, wq_if_ge, wq_if_gt, wq_if_le, wq_icmp_eq, wq_icmp_ne, wq_icmp_lt, wq_icmp_ge, wq_icmp_gt, wq_icmp_le, wp_max, wp_min, kI_inl, kR_some, kN_inl, kO_some, KT_none, KT_some, List.length_cons, List.length_nil, Nat.reduceAdd, Nat.reduceLT, Nat.reduceLeDiff, Nat.reduceMod, Nat.reduceDiv, true_and, and_true, Int.reduceLE, Int.reduceNeg, Int.reduceLT, Int.cast_ofNat_Int, Nat.zero_le, zI, Int.reduceAdd, Int.reduceSub, Int.reduceMul, not_true_eq_false, not_false_eq_true, false_implies, true_implies, i01_0, i01_1, ite_not, ↓reduceIte, zget_0, zget_1, zget_2, zget_3, zget_4, zget_5, zget_6, zget_7, zget_8, zget_9, zget_10, zset_0, zset_1, zset_2, zset_3, zset_4, zset_5, zset_6, zset_7, zset_8, zset_9, zset_10, kd_171, rf_171_0, rf_171_1, rf_171_3, rf_171_4, rf_171_5, rf_171_6, rf_171_7, rf_171_8, rf_171_10, rf_171_13, rf_171_14, rf_171_15, rf_171_16, rf_171_17, rf_171_20, rf_171_21, rf_171_27, rf_171_28, rf_171_29, rf_171_30, rf_171_31, hun, show unM (im 172) dv k ≤ 0 by omega, if_true, true_or, true_and]
abbrev zMv : Type := (Int → Int) × (Int → Int) × Int
def mvm (X : zM) (y : zMv) : zM := setc (setc (setc X 186 y.1) 187 y.2.1) 171 (ups (X 171) 22 y.2.2)
theorem mvm_A {X : zM} {y : zMv} : mvm X y 172 = X 172 := by
  unfold mvm
  rw [setc_ne _ _ (by omega), setc_ne _ _ (by omega), setc_ne _ _ (by omega)]
def mrm (X : zM) (y : zMv) (r : zRb) : zM := rbm (mvm X y) r
theorem mrm_n {X : zM} {y : zMv} {r : zRb} : mrm X y r 171 22 = y.2.2 := by
  unfold mrm mvm
  rw [rbm_f (by omega) (by omega), setc_at, ups_at]
theorem mrm_1 {X : zM} {y : zMv} {r : zRb} : mrm X y r 186 = y.1 := by
  unfold mrm mvm
  rw [rbm_o (by omega), setc_ne _ _ (by omega), setc_ne _ _ (by omega), setc_at]
theorem mrm_2 {X : zM} {y : zMv} {r : zRb} : mrm X y r 187 = y.2.1 := by
  unfold mrm mvm
  rw [rbm_o (by omega), setc_ne _ _ (by omega), setc_at]
theorem rbm_out {X : zM} {r : zRb} {p : Nat} {c : Int → Int} (h : 185 < p) : setc (rbm X r) p c = rbm (setc X p c) r := by
  unfold rbm
  rw [setc_comm _ _ c (show (171 : Nat) ≠ p by omega), setc_comm _ _ c (show (185 : Nat) ≠ p by omega), setc_comm _ _ c (show (184 : Nat) ≠ p by omega), setc_comm _ _ c (show (183 : Nat) ≠ p by omega), setc_comm _ _ c (show (182 : Nat) ≠ p by omega), setc_comm _ _ c (show (181 : Nat) ≠ p by omega), setc_ne X _ (show (171 : Nat) ≠ p by omega)]
theorem mrm_s1 {X : zM} {y : zMv} {r : zRb} {c : Int → Int} : setc (mrm X y r) 186 c = mrm X (c, y.2) r := by
  unfold mrm mvm
  rw [rbm_out (by omega), setc_comm _ _ _ (show (171 : Nat) ≠ 186 by omega), setc_comm _ _ _ (show (187 : Nat) ≠ 186 by omega), setc_setc]
theorem mrm_s2 {X : zM} {y : zMv} {r : zRb} {c : Int → Int} : setc (mrm X y r) 187 c = mrm X (y.1, c, y.2.2) r := by
  unfold mrm mvm
  rw [rbm_out (by omega), setc_comm _ _ _ (show (171 : Nat) ≠ 187 by omega), setc_setc]
theorem mrm_sn {X : zM} {y : zMv} {r : zRb} : setc (mrm X y r) 171 (ups (mrm X y r 171) 22 v) = mrm X (y.1, y.2.1, v) r := by
  have e1 : ∀ (c c' : Int → Int), setc (setc (setc X 186 y.1) 187 y.2.1) 171 c = setc (setc (setc X 186 y.1) 187 y.2.1) 171 c → True := fun _ _ _ => trivial
  unfold mrm mvm rbm
  simp only [setc_at, setc_setc]
  have h1 : ∀ (Z : zM) (c1 c2 : Int → Int) (c3 c4 c5 c6 c7 : Int → Int), setc (setc (setc (setc (setc (setc (setc Z 171 c1) 181 c3) 182 c4) 183 c5) 184 c6) 185 c7) 171 c2 = setc (setc (setc (setc (setc (setc Z 181 c3) 182 c4) 183 c5) 184 c6) 185 c7) 171 c2 := by
    intro Z c1 c2 c3 c4 c5 c6 c7
    rw [setc_comm _ c7 c2 (show (185 : Nat) ≠ 171 by omega), setc_comm _ c6 c2 (show (184 : Nat) ≠ 171 by omega), setc_comm _ c5 c2 (show (183 : Nat) ≠ 171 by omega), setc_comm _ c4 c2 (show (182 : Nat) ≠ 171 by omega), setc_comm _ c3 c2 (show (181 : Nat) ≠ 171 by omega), setc_setc]
    rw [setc_comm _ c7 c2 (show (185 : Nat) ≠ 171 by omega), setc_comm _ c6 c2 (show (184 : Nat) ≠ 171 by omega), setc_comm _ c5 c2 (show (183 : Nat) ≠ 171 by omega), setc_comm _ c4 c2 (show (182 : Nat) ≠ 171 by omega), setc_comm _ c3 c2 (show (181 : Nat) ≠ 171 by omega)]
  rw [h1, h1]
  congr 1
  funext j
  unfold ups
  grind
theorem mrm_self (X : zM) : mrm X (X 186, X 187, X 171 22) (rbg X) = X := by
  unfold mrm mvm
  dsimp only
  rw [setc_self, setc_self, ups_self, setc_self, rbm_self]
theorem mrm_A {X : zM} {y : zMv} {r : zRb} : mrm X y r 172 = X 172 := by
  unfold mrm
  rw [rbm_A, mvm_A]
def mvF (r : zRb) (i : Int) (y : zMv) : zMv := (ups y.1 y.2.2 (r.2.2.1 (r.2.2.2.1 i)), ups y.2.1 y.2.2 (r.2.2.2.2.1 i), y.2.2 + 1)
/-- what was moved is noted -/
def MvK (y : zMv) : Prop := 0 ≤ y.2.2 ∧ ∀ i : Int, 0 ≤ i → i < y.2.2 → 0 ≤ y.1 i ∧ y.1 i < 60
theorem l_mv {X : zM} {r : zRb} (hn : 0 ≤ r.2.2.2.2.2.2 ∧ r.2.2.2.2.2.2 ≤ 3) (hr : RoK r.2.2.1 r.2.2.2.1 r.2.2.2.2.2.2) {x1 x2 x3 x4 : zV} : ∀ (n : Nat) (i : Int) (y : zMv), 0 ≤ i → i + n = r.2.2.2.2.2.2 → MvK y → y.2.2 + n ≤ 6 → (MvK (lp (mvF r) n i y) ∧ (lp (mvF r) n i y).2.2 = y.2.2 + n) ∧ ∃ x5, ∀ Q, wp none (d + 6) 220 (zpg 220 92) [.inr (some 171), x1, x2, x3, x4, .inl i] [] (mrm X y r) Q ↔ wp none (d + 6) 220 (zpg 220 154) [.inr (some 171), x1, x2, x3, x4, x5] [] (mrm X (lp (mvF r) n i y) r) Q
  | 0, i, y, h0, h1, hy, h2 => by
    refine ⟨⟨hy, by simp only [lp]; omega⟩, .inl i, fun Q => ?_⟩
    have e1 : mrm X y r 171 19 = r.2.2.2.2.2.2 := rbm_n
    conv => lhs; rw [pg_220_92]
    simp (disch := omega) only [wp_iload, wp_aload, wp_istore, wp_astore, wp_iinc, wp_iconst, wp_dup, wp_dup2, wp_pop, wp_iadd, wp_isub, wp_imul, wp_idiv, wp_irem, wp_ineg, wp_iand, wp_ior, wp_ixor, wp_ishl, wp_ishr, wp_getI, wp_putI, wp_getR, wp_goto, wp_goto_w, wq_if_eq, wq_if_ne, wq_if_lt, wq_if_ge, wq_if_gt, wq_if_le, wq_icmp_eq, wq_icmp_ne, wq_icmp_lt, wq_icmp_ge, wq_icmp_gt, wq_icmp_le, wp_max, wp_min, kI_inl, kR_some, kN_inl, kO_some, KT_none, KT_some, List.length_cons, List.length_nil, Nat.reduceAdd, Nat.reduceLT, Nat.reduceLeDiff, Nat.reduceMod, Nat.reduceDiv, true_and, and_true, Int.reduceLE, Int.reduceNeg, Int.reduceLT, Int.cast_ofNat_Int, Nat.zero_le, zI, Int.reduceAdd, Int.reduceSub, Int.reduceMul, not_true_eq_false, not_false_eq_true, false_implies, true_implies, i01_0, i01_1, ite_not, ↓reduceIte, zget_0, zget_1, zget_2, zget_3, zget_4, zget_5, zget_6, zget_7, zget_8, zget_9, zget_10, zset_0, zset_1, zset_2, zset_3, zset_4, zset_5, zset_6, zset_7, zset_8, zset_9, zset_10, kd_171, rf_171_0, rf_171_1, rf_171_3, rf_171_4, rf_171_5, rf_171_6, rf_171_7, rf_171_8, rf_171_10, rf_171_13, rf_171_14, rf_171_15, rf_171_16, rf_171_17, rf_171_20, rf_171_21, rf_171_27, rf_171_28, rf_171_29, rf_171_30, rf_171_31, e1, show r.2.2.2.2.2.2 ≤ i by omega, if_true, lp]
  | n + 1, i, y, h0, h1, hy, h2 => by
    have hri := hr i h0 (by omega)
    have hy0 := hy.1
    have e1 : mrm X y r 171 19 = r.2.2.2.2.2.2 := rbm_n
    have e2 : ∀ y, mrm X y r 183 = r.2.2.1 := fun y => rbm_M
    have e3 : ∀ y, mrm X y r 184 = r.2.2.2.1 := fun y => rbm_R
    have e4 : ∀ y, mrm X y r 185 = r.2.2.2.2.1 := fun y => rbm_V
    have hy2 : MvK (mvF r i y) := by
      refine ⟨by unfold mvF; dsimp only; omega, fun j q0 q1 => ?_⟩
      unfold mvF at q1 ⊢
      dsimp only at q1 ⊢
      by_cases c : j = y.2.2
      · rw [c, ups_at]
        omega
      · rw [ups_ne _ _ c]
        exact hy.2 j q0 (by omega)
    obtain ⟨⟨i1, i2⟩, x5, ih⟩ := l_mv (X := X) hn hr (x1 := x1) (x2 := x2) (x3 := x3) (x4 := x4) n (i + 1) (mvF r i y) (by omega) (by omega) hy2 (by unfold mvF; dsimp only; omega)
    simp only [lp]
    refine ⟨⟨i1, by rw [i2]; unfold mvF; dsimp only; omega⟩, x5, fun Q => ?_⟩
    rw [← ih Q]
    conv => lhs; rw [pg_220_92]
    simp (disch := omega) only [wp_iload, wp_aload, wp_istore, wp_astore, wp_iinc, wp_iconst, wp_dup, wp_dup2, wp_pop, wp_iadd, wp_isub, wp_imul, wp_idiv, wp_irem, wp_ineg, wp_iand, wp_ior, wp_ixor, wp_ishl, wp_ishr, wp_getI, wp_putI, wp_getR, wp_goto, wp_goto_w, wq_if_eq, wq_if_ne, wq_if_lt, wq_if_ge, wq_if_gt, wq_if_le, wq_icmp_eq, wq_icmp_ne, wq_icmp_lt, wq_icmp_ge, wq_icmp_gt, wq_icmp_le, wp_max, wp_min, kI_inl, kR_some, kN_inl, kO_some, KT_none, KT_some, List.length_cons, List.length_nil, Nat.reduceAdd, Nat.reduceLT, Nat.reduceLeDiff, Nat.reduceMod, Nat.reduceDiv, true_and, and_true, Int.reduceLE, Int.reduceNeg, Int.reduceLT, Int.cast_ofNat_Int, Nat.zero_le, zI, Int.reduceAdd, Int.reduceSub, Int.reduceMul, not_true_eq_false, not_false_eq_true, false_implies, true_implies, i01_0, i01_1, ite_not, ↓reduceIte, zget_0, zget_1, zget_2, zget_3, zget_4, zget_5, zget_6, zget_7, zget_8, zget_9, zget_10, zset_0, zset_1, zset_2, zset_3, zset_4, zset_5, zset_6, zset_7, zset_8, zset_9, zset_10, kd_171, rf_171_0, rf_171_1, rf_171_3, rf_171_4, rf_171_5, rf_171_6, rf_171_7, rf_171_8, rf_171_10, rf_171_13, rf_171_14, rf_171_15, rf_171_16, rf_171_17, rf_171_20, rf_171_21, rf_171_27, rf_171_28, rf_171_29, rf_171_30, rf_171_31, e1, show ¬ r.2.2.2.2.2.2 ≤ i by omega, if_false, wp_iaload kd_183, wp_iaload kd_184, wp_iaload kd_185, wp_iastore kd_186, wp_iastore kd_187, zu_setc, e2, e3, e4, mrm_n, mrm_1, mrm_2, mrm_s1, mrm_s2, mrm_sn, mvF]
    try (repeat (refine (and_iff_right (by omega)).trans ?_))
    try exact Iff.rfl
def tbK (A : Int → Int) (dv bu : Int) : Nat → Int → Int × zMv × zRb → Int × zMv × zRb
  | 0, _, y => y
  | m + 1, k, y => if 0 < unM A dv k then (if (frS A dv bu k y.2.2).1 = 1 then tbK A dv bu m (k + 1) (y.1 + mnM A (frS A dv bu k y.2.2).2, lp (mvF (frS A dv bu k y.2.2).2) (frS A dv bu k y.2.2).2.2.2.2.2.2.2.toNat 0 y.2.1, (frS A dv bu k y.2.2).2) else (-4, y.2.1, (frS A dv bu k y.2.2).2)) else tbK A dv bu m (k + 1) y
theorem cnt_nn {p : Int → Bool} (n : Nat) (i : Int) : 0 ≤ lp (cntf p) n i 0 ∧ lp (cntf p) n i 0 ≤ n := by
  have := cnt_bd (p := p) n i 0
  omega
theorem l_tb {X : zM} {A : Int → Int} (hX : X 172 = A) (hg : MG A) (hd : 0 ≤ dv ∧ dv < 20) (hz : ∀ e, thM A e → MZ A e) (ht : thM A dv) (hw : FtP A bu) : ∀ (m : Nat) (k : Int) (y : Int × zMv × zRb) (x5 : zV), 0 ≤ k → k + m = 2 → (0 ≤ y.1 ∧ y.1 ≤ 3 * k) → MvK y.2.1 → y.2.1.2.2 ≤ 3 * k → (∀ j : Int, 0 ≤ j → j < 3 → 0 ≤ y.2.2.2.2.2.1 j ∧ y.2.2.2.2.2.1 j ≤ 100) → (MvK (tbK A dv bu m k y).2.1 ∧ (tbK A dv bu m k y).2.1.2.2 ≤ 6 ∧ ((0 ≤ (tbK A dv bu m k y).1 ∧ (tbK A dv bu m k y).1 ≤ 6) ∨ (tbK A dv bu m k y).1 = -4) ∧ (∀ j : Int, 0 ≤ j → j < 3 → 0 ≤ (tbK A dv bu m k y).2.2.2.2.2.1 j ∧ (tbK A dv bu m k y).2.2.2.2.2.1 j ≤ 100)) ∧ ∀ Q, wp none (d + 6) 220 (zpg 220 49) [.inr (some 171), .inl dv, .inl bu, .inl y.1, .inl k, x5] [] (mrm X y.2.1 y.2.2) Q ↔ Q (some (.inl (tbK A dv bu m k y).1)) (mrm X (tbK A dv bu m k y).2.1 (tbK A dv bu m k y).2.2)
  | 0, k, y, x5, h0, h1, h2, hy, hy2, hR => by
    refine ⟨⟨hy, by simp only [tbK]; omega, Or.inl (by simp only [tbK]; omega), hR⟩, fun Q => ?_⟩
    rw [pg_220_49]
    simp (disch := omega) only [wp_ireturn rk_220, pg_220_16, pg_220_18, pg_220_35, pg_220_68, pg_220_82, pg_220_154, pg_220_160, cw_145, cw_147, cw_175, cw_193, cw_199, cw_217, cw_218, cw_219, wp_iload, wp_aload, wp_istore, wp_astore, wp_iinc, wp_iconst, wp_dup, wp_dup2, wp_pop, wp_iadd, wp_isub, wp_imul, wp_idiv, wp_irem, wp_ineg, wp_iand, wp_ior, wp_ixor, wp_ishl, wp_ishr, wp_getI, wp_putI, wp_getR, wp_goto, wp_goto_w, wq_if_eq, wq_if_ne, wq_if_lt, wq_if_ge, wq_if_gt, wq_if_le, wq_icmp_eq, wq_icmp_ne, wq_icmp_lt, wq_icmp_ge, wq_icmp_gt, wq_icmp_le, wp_max, wp_min, kI_inl, kR_some, kN_inl, kO_some, KT_none, KT_some, List.length_cons, List.length_nil, Nat.reduceAdd, Nat.reduceLT, Nat.reduceLeDiff, Nat.reduceMod, Nat.reduceDiv, true_and, and_true, Int.reduceLE, Int.reduceNeg, Int.reduceLT, Int.cast_ofNat_Int, Nat.zero_le, zI, Int.reduceAdd, Int.reduceSub, Int.reduceMul, not_true_eq_false, not_false_eq_true, false_implies, true_implies, i01_0, i01_1, ite_not, ↓reduceIte, zget_0, zget_1, zget_2, zget_3, zget_4, zget_5, zget_6, zget_7, zget_8, zget_9, zget_10, zset_0, zset_1, zset_2, zset_3, zset_4, zset_5, zset_6, zset_7, zset_8, zset_9, zset_10, show 2 ≤ k by omega, if_true, tbK]
  | m + 1, k, y, x5, h0, h1, h2, hy, hy2, hR => by
    have hk : 0 ≤ k ∧ k < 2 := by omega
    have hhk := fun Q => c_hasKind (d := d + 3) (im := mrm X y.2.1 y.2.2) (dv := dv) (k := k) (Q := Q) (by rw [mrm_A, hX]; exact hg) hd
    rw [mrm_A, hX] at hhk
    by_cases c : 0 < unM A dv k
    · have hfr := c_findRowM (d := d) (X := mvm X y.2.1) (A := A) (dv := dv) (bu := bu) (k := k) (r := y.2.2) (by rw [mvm_A]; exact hX) hg hd hz ht hw.1 hk (hw.2 k hk.1 hk.2).1 (hw.2 k hk.1 hk.2).2 hR
      obtain ⟨f1, f2, f3, f4, f5, f6⟩ := hfr
      have f1' : ∀ Q, CallP (d + 5) 218 [.inr (some 171), .inl dv, .inl bu, .inl k] (mrm X y.2.1 y.2.2) Q ↔ Q (some (.inl (frS A dv bu k y.2.2).1)) (mrm X y.2.1 (frS A dv bu k y.2.2).2) := f1
      by_cases c2 : (frS A dv bu k y.2.2).1 = 1
      · obtain ⟨g1, g2, g3⟩ := f3 c2
        have ec : tbK A dv bu (m + 1) k y = tbK A dv bu m (k + 1) (y.1 + mnM A (frS A dv bu k y.2.2).2, lp (mvF (frS A dv bu k y.2.2).2) (frS A dv bu k y.2.2).2.2.2.2.2.2.2.toNat 0 y.2.1, (frS A dv bu k y.2.2).2) := by simp only [tbK, if_pos c, if_pos c2]
        generalize frS A dv bu k y.2.2 = F at *
        have hro := Ro_of f5 f6 g1.2.2.2 g3
        rw [← g1.1] at hro
        have hmn := fun Q => c_movedNow (d := d + 3) (X := mvm X y.2.1) (A := A) (r := F.2) (Q := Q) (by rw [mvm_A]; exact hX) ⟨g2, g3⟩ hro.1
        have hmn' : ∀ Q, CallP (d + 5) 219 [.inr (some 171)] (mrm X y.2.1 F.2) Q ↔ Q (some (.inl (mnM A F.2))) (mrm X y.2.1 F.2) := hmn
        have hmb := cnt_nn (p := mnB A F.2.2.2.1 F.2.2.2.2.1 F.2.2.2.2.2.1) F.2.2.2.2.2.2.2.toNat 0
        have hme : mnM A F.2 = lp (cntf (mnB A F.2.2.2.1 F.2.2.2.2.1 F.2.2.2.2.2.1)) F.2.2.2.2.2.2.2.toNat 0 0 := rfl
        obtain ⟨⟨m1, m2⟩, x5', hmv⟩ := l_mv (d := d) (X := X) (r := F.2) ⟨g2, g3⟩ hro.1 (x1 := .inl dv) (x2 := .inl bu) (x3 := .inl (y.1 + mnM A F.2)) (x4 := .inl k) F.2.2.2.2.2.2.2.toNat 0 y.2.1 (by omega) (by omega) hy (by omega)
        have ih := fun x5 => l_tb hX hg hd hz ht hw m (k + 1) (y.1 + mnM A F.2, lp (mvF F.2) F.2.2.2.2.2.2.2.toNat 0 y.2.1, F.2) x5 (by omega) (by omega) (by dsimp only; omega) m1 (by dsimp only; omega) f4
        rw [ec]
        refine ⟨(ih (.inr none)).1, fun Q => ?_⟩
        rw [← (ih x5').2 Q]
        conv => lhs; rw [pg_220_49]
        simp (disch := omega) only [cw_217, cw_218, cw_219, pg_220_68, pg_220_82, wp_iload, wp_aload, wp_istore, wp_astore, wp_iinc, wp_iconst, wp_dup, wp_dup2, wp_pop, wp_iadd, wp_isub, wp_imul, wp_idiv, wp_irem, wp_ineg, wp_iand, wp_ior, wp_ixor, wp_ishl, wp_ishr, wp_getI, wp_putI, wp_getR, wp_goto, wp_goto_w, wq_if_eq, wq_if_ne, wq_if_lt, wq_if_ge, wq_if_gt, wq_if_le, wq_icmp_eq, wq_icmp_ne, wq_icmp_lt, wq_icmp_ge, wq_icmp_gt, wq_icmp_le, wp_max, wp_min, kI_inl, kR_some, kN_inl, kO_some, KT_none, KT_some, List.length_cons, List.length_nil, Nat.reduceAdd, Nat.reduceLT, Nat.reduceLeDiff, Nat.reduceMod, Nat.reduceDiv, true_and, and_true, Int.reduceLE, Int.reduceNeg, Int.reduceLT, Int.cast_ofNat_Int, Nat.zero_le, zI, Int.reduceAdd, Int.reduceSub, Int.reduceMul, not_true_eq_false, not_false_eq_true, false_implies, true_implies, i01_0, i01_1, ite_not, ↓reduceIte, zget_0, zget_1, zget_2, zget_3, zget_4, zget_5, zget_6, zget_7, zget_8, zget_9, zget_10, zset_0, zset_1, zset_2, zset_3, zset_4, zset_5, zset_6, zset_7, zset_8, zset_9, zset_10, kd_171, rf_171_0, rf_171_1, rf_171_3, rf_171_4, rf_171_5, rf_171_6, rf_171_7, rf_171_8, rf_171_10, rf_171_13, rf_171_14, rf_171_15, rf_171_16, rf_171_17, rf_171_20, rf_171_21, rf_171_27, rf_171_28, rf_171_29, rf_171_30, rf_171_31, show ¬ 2 ≤ k by omega, if_false, hhk, if_pos c, f1', c2, hmn']
        try simp only [show ¬ (1 : Int) = 0 by omega, not_false_eq_true, if_true, if_false]
        repeat (refine (and_iff_right (by omega)).trans ?_)
        rw [hmv Q]
        conv => lhs; rw [pg_220_154]
        simp (disch := omega) only [wp_iload, wp_aload, wp_istore, wp_astore, wp_iinc, wp_iconst, wp_dup, wp_dup2, wp_pop, wp_iadd, wp_isub, wp_imul, wp_idiv, wp_irem, wp_ineg, wp_iand, wp_ior, wp_ixor, wp_ishl, wp_ishr, wp_getI, wp_putI, wp_getR, wp_goto, wp_goto_w, wq_if_eq, wq_if_ne, wq_if_lt, wq_if_ge, wq_if_gt, wq_if_le, wq_icmp_eq, wq_icmp_ne, wq_icmp_lt, wq_icmp_ge, wq_icmp_gt, wq_icmp_le, wp_max, wp_min, kI_inl, kR_some, kN_inl, kO_some, KT_none, KT_some, List.length_cons, List.length_nil, Nat.reduceAdd, Nat.reduceLT, Nat.reduceLeDiff, Nat.reduceMod, Nat.reduceDiv, true_and, and_true, Int.reduceLE, Int.reduceNeg, Int.reduceLT, Int.cast_ofNat_Int, Nat.zero_le, zI, Int.reduceAdd, Int.reduceSub, Int.reduceMul, not_true_eq_false, not_false_eq_true, false_implies, true_implies, i01_0, i01_1, ite_not, ↓reduceIte, zget_0, zget_1, zget_2, zget_3, zget_4, zget_5, zget_6, zget_7, zget_8, zget_9, zget_10, zset_0, zset_1, zset_2, zset_3, zset_4, zset_5, zset_6, zset_7, zset_8, zset_9, zset_10]
        try (repeat (refine (and_iff_right (by omega)).trans ?_))
        try exact Iff.rfl
      · have c0 : (frS A dv bu k y.2.2).1 = 0 := by omega
        have ec : tbK A dv bu (m + 1) k y = (-4, y.2.1, (frS A dv bu k y.2.2).2) := by simp only [tbK, if_pos c, if_neg c2]
        rw [ec]
        refine ⟨⟨hy, by dsimp only; omega, Or.inr rfl, f4⟩, fun Q => ?_⟩
        rw [pg_220_49]
        simp (disch := omega) only [cw_217, cw_218, cw_219, pg_220_68, wp_ireturn rk_220, wp_iload, wp_aload, wp_istore, wp_astore, wp_iinc, wp_iconst, wp_dup, wp_dup2, wp_pop, wp_iadd, wp_isub, wp_imul, wp_idiv, wp_irem, wp_ineg, wp_iand, wp_ior, wp_ixor, wp_ishl, wp_ishr, wp_getI, wp_putI, wp_getR, wp_goto, wp_goto_w, wq_if_eq, wq_if_ne, wq_if_lt, wq_if_ge, wq_if_gt, wq_if_le, wq_icmp_eq, wq_icmp_ne, wq_icmp_lt, wq_icmp_ge, wq_icmp_gt, wq_icmp_le, wp_max, wp_min, kI_inl, kR_some, kN_inl, kO_some, KT_none, KT_some, List.length_cons, List.length_nil, Nat.reduceAdd, Nat.reduceLT, Nat.reduceLeDiff, Nat.reduceMod, Nat.reduceDiv, true_and, and_true, Int.reduceLE, Int.reduceNeg, Int.reduceLT, Int.cast_ofNat_Int, Nat.zero_le, zI, Int.reduceAdd, Int.reduceSub, Int.reduceMul, not_true_eq_false, not_false_eq_true, false_implies, true_implies, i01_0, i01_1, ite_not, ↓reduceIte, zget_0, zget_1, zget_2, zget_3, zget_4, zget_5, zget_6, zget_7, zget_8, zget_9, zget_10, zset_0, zset_1, zset_2, zset_3, zset_4, zset_5, zset_6, zset_7, zset_8, zset_9, zset_10, kd_171, rf_171_0, rf_171_1, rf_171_3, rf_171_4, rf_171_5, rf_171_6, rf_171_7, rf_171_8, rf_171_10, rf_171_13, rf_171_14, rf_171_15, rf_171_16, rf_171_17, rf_171_20, rf_171_21, rf_171_27, rf_171_28, rf_171_29, rf_171_30, rf_171_31, show ¬ 2 ≤ k by omega, if_false, hhk, if_pos c, f1', c0]
        try simp only [show ¬ (1 : Int) = 0 by omega, not_false_eq_true, if_true, if_false, not_true_eq_false]
    · have ec : tbK A dv bu (m + 1) k y = tbK A dv bu m (k + 1) y := if_neg c
      have ih := fun x5 => l_tb hX hg hd hz ht hw m (k + 1) y x5 (by omega) (by omega) (by omega) hy (by omega) hR
      rw [ec]
      refine ⟨(ih (.inr none)).1, fun Q => ?_⟩
      rw [← (ih x5).2 Q]
      conv => lhs; rw [pg_220_49]
      simp (disch := omega) only [cw_217, pg_220_154, wp_iload, wp_aload, wp_istore, wp_astore, wp_iinc, wp_iconst, wp_dup, wp_dup2, wp_pop, wp_iadd, wp_isub, wp_imul, wp_idiv, wp_irem, wp_ineg, wp_iand, wp_ior, wp_ixor, wp_ishl, wp_ishr, wp_getI, wp_putI, wp_getR, wp_goto, wp_goto_w, wq_if_eq, wq_if_ne, wq_if_lt, wq_if_ge, wq_if_gt, wq_if_le, wq_icmp_eq, wq_icmp_ne, wq_icmp_lt, wq_icmp_ge, wq_icmp_gt, wq_icmp_le, wp_max, wp_min, kI_inl, kR_some, kN_inl, kO_some, KT_none, KT_some, List.length_cons, List.length_nil, Nat.reduceAdd, Nat.reduceLT, Nat.reduceLeDiff, Nat.reduceMod, Nat.reduceDiv, true_and, and_true, Int.reduceLE, Int.reduceNeg, Int.reduceLT, Int.cast_ofNat_Int, Nat.zero_le, zI, Int.reduceAdd, Int.reduceSub, Int.reduceMul, not_true_eq_false, not_false_eq_true, false_implies, true_implies, i01_0, i01_1, ite_not, ↓reduceIte, zget_0, zget_1, zget_2, zget_3, zget_4, zget_5, zget_6, zget_7, zget_8, zget_9, zget_10, zset_0, zset_1, zset_2, zset_3, zset_4, zset_5, zset_6, zset_7, zset_8, zset_9, zset_10, kd_171, rf_171_0, rf_171_1, rf_171_3, rf_171_4, rf_171_5, rf_171_6, rf_171_7, rf_171_8, rf_171_10, rf_171_13, rf_171_14, rf_171_15, rf_171_16, rf_171_17, rf_171_20, rf_171_21, rf_171_27, rf_171_28, rf_171_29, rf_171_30, rf_171_31, show ¬ 2 ≤ k by omega, if_false, hhk, if_neg c]
      try simp only [not_true_eq_false, if_false]
      try (repeat (refine (and_iff_right (by omega)).trans ?_))
      try exact Iff.rfl
/-- REBALANCE tried -/
def tbY (im : zM) (dv : Int) : Int × zMv × zRb := tbK (im 172) dv (buM (im 172) dv) 2 0 (0, (im 186, im 187, 0), rW (rbg im) (cwW (im 182)))
def tbR (im : zM) (dv : Int) : Int × zM :=
  if ¬ epM (im 172) dv ∨ onM (im 172) dv then (-1, im)
  else if ¬ buOn (im 172) (buM (im 172) dv) then (-2, im)
  else ((tbY im dv).1, mrm im (tbY im dv).2.1 (tbY im dv).2.2)
theorem tb0 (im : zM) : setc (setc im 182 (cwW (im 182))) 171 (ups (im 171) 22 0) = mrm im (im 186, im 187, 0) (rW (rbg im) (cwW (im 182))) := by
  have e1 : setc im 171 (ups (im 171) 22 0) = mrm im (im 186, im 187, 0) (rbg im) := by
    have h := mrm_sn (X := im) (y := (im 186, im 187, im 171 22)) (r := rbg im) (v := 0)
    rw [mrm_self] at h
    exact h
  rw [setc_comm _ _ _ (by omega), e1]
  exact rbm_sW
/-- what REBALANCE of the reference wants -/
def TbH (im : zM) (dv : Int) : Prop := MG (im 172) ∧ (∀ e, thM (im 172) e → MZ (im 172) e) ∧ (thM (im 172) dv → buOn (im 172) (buM (im 172) dv) → FtP (im 172) (buM (im 172) dv)) ∧ ∀ j : Int, 0 ≤ j → j < 3 → 0 ≤ im 184 j ∧ im 184 j ≤ 100
theorem c_tryReb (h : TbH im dv) : (∀ Q, CallP (d + 7) 220 [.inr (some 171), .inl dv] im Q ↔ Q (some (.inl (tbR im dv).1)) (tbR im dv).2) ∧ ∀ j : Int, 0 ≤ j → j < 3 → 0 ≤ (tbR im dv).2 184 j ∧ (tbR im dv).2 184 j ≤ 100 := by
  by_cases c1 : epM (im 172) dv
  · have hd : 0 ≤ dv ∧ dv < 20 := ⟨c1.1.1, by have := c1.1.2.1; omega⟩
    by_cases c2 : onM (im 172) dv
    · have ec : tbR im dv = (-1, im) := if_pos (Or.inr c2)
      rw [ec]
      refine ⟨fun Q => ?_, h.2.2.2⟩
      simp (disch := omega) only [en_220, wp_ireturn rk_220, pg_220_0, pg_220_16, pg_220_18, pg_220_35, pg_220_68, pg_220_82, pg_220_154, pg_220_160, cw_145, cw_147, cw_175, cw_193, cw_199, cw_217, cw_218, cw_219, wp_iload, wp_aload, wp_istore, wp_astore, wp_iinc, wp_iconst, wp_dup, wp_dup2, wp_pop, wp_iadd, wp_isub, wp_imul, wp_idiv, wp_irem, wp_ineg, wp_iand, wp_ior, wp_ixor, wp_ishl, wp_ishr, wp_getI, wp_putI, wp_getR, wp_goto, wp_goto_w, wq_if_eq, wq_if_ne, wq_if_lt, wq_if_ge, wq_if_gt, wq_if_le, wq_icmp_eq, wq_icmp_ne, wq_icmp_lt, wq_icmp_ge, wq_icmp_gt, wq_icmp_le, wp_max, wp_min, kI_inl, kR_some, kN_inl, kO_some, KT_none, KT_some, List.length_cons, List.length_nil, Nat.reduceAdd, Nat.reduceLT, Nat.reduceLeDiff, Nat.reduceMod, Nat.reduceDiv, true_and, and_true, Int.reduceLE, Int.reduceNeg, Int.reduceLT, Int.cast_ofNat_Int, Nat.zero_le, zI, Int.reduceAdd, Int.reduceSub, Int.reduceMul, not_true_eq_false, not_false_eq_true, false_implies, true_implies, i01_0, i01_1, ite_not, ↓reduceIte, zget_0, zget_1, zget_2, zget_3, zget_4, zget_5, zget_6, zget_7, zget_8, zget_9, zget_10, zset_0, zset_1, zset_2, zset_3, zset_4, zset_5, zset_6, zset_7, zset_8, zset_9, zset_10, kd_171, rf_171_0, rf_171_1, rf_171_3, rf_171_4, rf_171_5, rf_171_6, rf_171_7, rf_171_8, rf_171_10, rf_171_13, rf_171_14, rf_171_15, rf_171_16, rf_171_17, rf_171_20, rf_171_21, rf_171_27, rf_171_28, rf_171_29, rf_171_30, rf_171_31, c_epM, if_pos c1, c_onM, if_pos c2]
      try simp only [show ¬ (1 : Int) = 0 by omega, if_false]
    · have hbo := fun Q => c_busOf (d := d + 5) (im := im) (dv := dv) (Q := Q) hd
      have hbu := fun Q => c_isBusOnM (d := d + 3) (im := im) (bu := buM (im 172) dv) (Q := Q)
      have n1 : ¬ (¬ epM (im 172) dv ∨ onM (im 172) dv) := fun q => q.elim (fun q => q c1) c2
      by_cases c3 : buOn (im 172) (buM (im 172) dv)
      · have n2 : ¬ ¬ buOn (im 172) (buM (im 172) dv) := fun q => q c3
        have ec : tbR im dv = ((tbY im dv).1, mrm im (tbY im dv).2.1 (tbY im dv).2.2) := by
          unfold tbR
          rw [if_neg n1, if_neg n2]
        have hl := l_tb (d := d + 1) (X := im) rfl h.1 hd h.2.1 c1.1 (h.2.2.1 c1.1 c3) 2 0 (0, (im 186, im 187, 0), rW (rbg im) (cwW (im 182))) (.inr none) (by omega) (by omega) (by dsimp only; omega) ⟨Int.le_refl _, fun i q0 q1 => by dsimp only at q1; omega⟩ (by dsimp only; omega) h.2.2.2
        have hcw := fun Q => c_clearWB (d := d + 5) (im := im) (Q := Q)
        rw [ec]
        have e184 : mrm im (tbY im dv).2.1 (tbY im dv).2.2 184 = (tbY im dv).2.2.2.2.2.1 := rbm_R
        refine ⟨fun Q => ?_, fun j q0 q1 => by dsimp only; rw [e184]; exact hl.1.2.2.2 j q0 q1⟩
        have h1 := hl.2 Q
        have e0 : mrm im (im 186, im 187, 0) (rW (rbg im) (cwW (im 182))) = setc (setc im 182 (cwW (im 182))) 171 (ups (im 171) 22 0) := (tb0 im).symm
        rw [e0] at h1
        simp (disch := omega) only [en_220, pg_220_0, pg_220_18, pg_220_35, cw_145, cw_147, cw_175, cw_193, cw_199, wp_iload, wp_aload, wp_istore, wp_astore, wp_iinc, wp_iconst, wp_dup, wp_dup2, wp_pop, wp_iadd, wp_isub, wp_imul, wp_idiv, wp_irem, wp_ineg, wp_iand, wp_ior, wp_ixor, wp_ishl, wp_ishr, wp_getI, wp_putI, wp_getR, wp_goto, wp_goto_w, wq_if_eq, wq_if_ne, wq_if_lt, wq_if_ge, wq_if_gt, wq_if_le, wq_icmp_eq, wq_icmp_ne, wq_icmp_lt, wq_icmp_ge, wq_icmp_gt, wq_icmp_le, wp_max, wp_min, kI_inl, kR_some, kN_inl, kO_some, KT_none, KT_some, List.length_cons, List.length_nil, Nat.reduceAdd, Nat.reduceLT, Nat.reduceLeDiff, Nat.reduceMod, Nat.reduceDiv, true_and, and_true, Int.reduceLE, Int.reduceNeg, Int.reduceLT, Int.cast_ofNat_Int, Nat.zero_le, zI, Int.reduceAdd, Int.reduceSub, Int.reduceMul, not_true_eq_false, not_false_eq_true, false_implies, true_implies, i01_0, i01_1, ite_not, ↓reduceIte, zget_0, zget_1, zget_2, zget_3, zget_4, zget_5, zget_6, zget_7, zget_8, zget_9, zget_10, zset_0, zset_1, zset_2, zset_3, zset_4, zset_5, zset_6, zset_7, zset_8, zset_9, zset_10, kd_171, rf_171_0, rf_171_1, rf_171_3, rf_171_4, rf_171_5, rf_171_6, rf_171_7, rf_171_8, rf_171_10, rf_171_13, rf_171_14, rf_171_15, rf_171_16, rf_171_17, rf_171_20, rf_171_21, rf_171_27, rf_171_28, rf_171_29, rf_171_30, rf_171_31, c_epM, if_pos c1, c_onM, if_neg c2, hbo, hbu, if_pos c3, hcw, zu_setc, setc_ne]
        try simp (disch := omega) only [show ¬ (1 : Int) = 0 by omega, not_false_eq_true, if_true, if_false, hbu, if_pos c3, wp_iload, wp_aload, wp_istore, wp_astore, wp_iinc, wp_iconst, wp_dup, wp_dup2, wp_pop, wp_iadd, wp_isub, wp_imul, wp_idiv, wp_irem, wp_ineg, wp_iand, wp_ior, wp_ixor, wp_ishl, wp_ishr, wp_getI, wp_putI, wp_getR, wp_goto, wp_goto_w, wq_if_eq, wq_if_ne, wq_if_lt, wq_if_ge, wq_if_gt, wq_if_le, wq_icmp_eq, wq_icmp_ne, wq_icmp_lt, wq_icmp_ge, wq_icmp_gt, wq_icmp_le, wp_max, wp_min, kI_inl, kR_some, kN_inl, kO_some, KT_none, KT_some, List.length_cons, List.length_nil, Nat.reduceAdd, Nat.reduceLT, Nat.reduceLeDiff, Nat.reduceMod, Nat.reduceDiv, true_and, and_true, Int.reduceLE, Int.reduceNeg, Int.reduceLT, Int.cast_ofNat_Int, Nat.zero_le, zI, Int.reduceAdd, Int.reduceSub, Int.reduceMul, not_true_eq_false, not_false_eq_true, false_implies, true_implies, i01_0, i01_1, ite_not, ↓reduceIte, zget_0, zget_1, zget_2, zget_3, zget_4, zget_5, zget_6, zget_7, zget_8, zget_9, zget_10, zset_0, zset_1, zset_2, zset_3, zset_4, zset_5, zset_6, zset_7, zset_8, zset_9, zset_10, kd_171, rf_171_0, rf_171_1, rf_171_3, rf_171_4, rf_171_5, rf_171_6, rf_171_7, rf_171_8, rf_171_10, rf_171_13, rf_171_14, rf_171_15, rf_171_16, rf_171_17, rf_171_20, rf_171_21, rf_171_27, rf_171_28, rf_171_29, rf_171_30, rf_171_31, hcw, zu_setc, setc_ne, cw_193, cw_199, pg_220_35]
        exact h1
      · have ec : tbR im dv = (-2, im) := by
          unfold tbR
          rw [if_neg n1, if_pos c3]
        rw [ec]
        refine ⟨fun Q => ?_, h.2.2.2⟩
        simp (disch := omega) only [en_220, pg_220_0, pg_220_18, cw_145, cw_147, cw_175, cw_193, wp_ireturn rk_220, wp_iload, wp_aload, wp_istore, wp_astore, wp_iinc, wp_iconst, wp_dup, wp_dup2, wp_pop, wp_iadd, wp_isub, wp_imul, wp_idiv, wp_irem, wp_ineg, wp_iand, wp_ior, wp_ixor, wp_ishl, wp_ishr, wp_getI, wp_putI, wp_getR, wp_goto, wp_goto_w, wq_if_eq, wq_if_ne, wq_if_lt, wq_if_ge, wq_if_gt, wq_if_le, wq_icmp_eq, wq_icmp_ne, wq_icmp_lt, wq_icmp_ge, wq_icmp_gt, wq_icmp_le, wp_max, wp_min, kI_inl, kR_some, kN_inl, kO_some, KT_none, KT_some, List.length_cons, List.length_nil, Nat.reduceAdd, Nat.reduceLT, Nat.reduceLeDiff, Nat.reduceMod, Nat.reduceDiv, true_and, and_true, Int.reduceLE, Int.reduceNeg, Int.reduceLT, Int.cast_ofNat_Int, Nat.zero_le, zI, Int.reduceAdd, Int.reduceSub, Int.reduceMul, not_true_eq_false, not_false_eq_true, false_implies, true_implies, i01_0, i01_1, ite_not, ↓reduceIte, zget_0, zget_1, zget_2, zget_3, zget_4, zget_5, zget_6, zget_7, zget_8, zget_9, zget_10, zset_0, zset_1, zset_2, zset_3, zset_4, zset_5, zset_6, zset_7, zset_8, zset_9, zset_10, kd_171, rf_171_0, rf_171_1, rf_171_3, rf_171_4, rf_171_5, rf_171_6, rf_171_7, rf_171_8, rf_171_10, rf_171_13, rf_171_14, rf_171_15, rf_171_16, rf_171_17, rf_171_20, rf_171_21, rf_171_27, rf_171_28, rf_171_29, rf_171_30, rf_171_31, c_epM, if_pos c1, c_onM, if_neg c2, hbo, hbu, if_neg c3]
        try simp only [show ¬ (1 : Int) = 0 by omega, not_false_eq_true, if_true, if_false, not_true_eq_false]
  · have ec : tbR im dv = (-1, im) := if_pos (Or.inl c1)
    rw [ec]
    refine ⟨fun Q => ?_, h.2.2.2⟩
    simp (disch := omega) only [en_220, wp_ireturn rk_220, pg_220_0, pg_220_16, pg_220_18, pg_220_35, pg_220_68, pg_220_82, pg_220_154, pg_220_160, cw_145, cw_147, cw_175, cw_193, cw_199, cw_217, cw_218, cw_219, wp_iload, wp_aload, wp_istore, wp_astore, wp_iinc, wp_iconst, wp_dup, wp_dup2, wp_pop, wp_iadd, wp_isub, wp_imul, wp_idiv, wp_irem, wp_ineg, wp_iand, wp_ior, wp_ixor, wp_ishl, wp_ishr, wp_getI, wp_putI, wp_getR, wp_goto, wp_goto_w, wq_if_eq, wq_if_ne, wq_if_lt, wq_if_ge, wq_if_gt, wq_if_le, wq_icmp_eq, wq_icmp_ne, wq_icmp_lt, wq_icmp_ge, wq_icmp_gt, wq_icmp_le, wp_max, wp_min, kI_inl, kR_some, kN_inl, kO_some, KT_none, KT_some, List.length_cons, List.length_nil, Nat.reduceAdd, Nat.reduceLT, Nat.reduceLeDiff, Nat.reduceMod, Nat.reduceDiv, true_and, and_true, Int.reduceLE, Int.reduceNeg, Int.reduceLT, Int.cast_ofNat_Int, Nat.zero_le, zI, Int.reduceAdd, Int.reduceSub, Int.reduceMul, not_true_eq_false, not_false_eq_true, false_implies, true_implies, i01_0, i01_1, ite_not, ↓reduceIte, zget_0, zget_1, zget_2, zget_3, zget_4, zget_5, zget_6, zget_7, zget_8, zget_9, zget_10, zset_0, zset_1, zset_2, zset_3, zset_4, zset_5, zset_6, zset_7, zset_8, zset_9, zset_10, kd_171, rf_171_0, rf_171_1, rf_171_3, rf_171_4, rf_171_5, rf_171_6, rf_171_7, rf_171_8, rf_171_10, rf_171_13, rf_171_14, rf_171_15, rf_171_16, rf_171_17, rf_171_20, rf_171_21, rf_171_27, rf_171_28, rf_171_29, rf_171_30, rf_171_31, c_epM, if_neg c1, if_true]
theorem c_movesM (h : TbH im dv) : CallP (d + 8) 221 [.inr (some 171), .inl dv] im Q ↔ Q (some (.inl (tbR im dv).1)) (tbR im dv).2 := by
  have ht := (c_tryReb (d := d) h).1
  simp (disch := omega) only [en_221, wp_ireturn rk_221, pg_221_0, cw_220, wp_iload, wp_aload, wp_istore, wp_astore, wp_iinc, wp_iconst, wp_dup, wp_dup2, wp_pop, wp_iadd, wp_isub, wp_imul, wp_idiv, wp_irem, wp_ineg, wp_iand, wp_ior, wp_ixor, wp_ishl, wp_ishr, wp_getI, wp_putI, wp_getR, wp_goto, wp_goto_w, wq_if_eq, wq_if_ne, wq_if_lt, wq_if_ge, wq_if_gt, wq_if_le, wq_icmp_eq, wq_icmp_ne, wq_icmp_lt, wq_icmp_ge, wq_icmp_gt, wq_icmp_le, wp_max, wp_min, kI_inl, kR_some, kN_inl, kO_some, KT_none, KT_some, List.length_cons, List.length_nil, Nat.reduceAdd, Nat.reduceLT, Nat.reduceLeDiff, Nat.reduceMod, Nat.reduceDiv, true_and, and_true, Int.reduceLE, Int.reduceNeg, Int.reduceLT, Int.cast_ofNat_Int, Nat.zero_le, zI, Int.reduceAdd, Int.reduceSub, Int.reduceMul, not_true_eq_false, not_false_eq_true, false_implies, true_implies, i01_0, i01_1, ite_not, ↓reduceIte, zget_0, zget_1, zget_2, zget_3, zget_4, zget_5, zget_6, zget_7, zget_8, zget_9, zget_10, zset_0, zset_1, zset_2, zset_3, zset_4, zset_5, zset_6, zset_7, zset_8, zset_9, zset_10, kd_171, rf_171_0, rf_171_1, rf_171_3, rf_171_4, rf_171_5, rf_171_6, rf_171_7, rf_171_8, rf_171_10, rf_171_13, rf_171_14, rf_171_15, rf_171_16, rf_171_17, rf_171_20, rf_171_21, rf_171_27, rf_171_28, rf_171_29, rf_171_30, rf_171_31, ht]
theorem l_reput {X : zM} {y : zMv} (hy : MvK y) (h6 : y.2.2 ≤ 6) (h186 : X 186 = y.1) (h187 : X 187 = y.2.1) (h22 : X 171 22 = y.2.2) {x1 x2 : zV} : ∀ (n : Nat) (i : Int) (A : Int → Int), 0 ≤ i → i + n = y.2.2 → ∀ Q, wp none (d + 1) 222 (zpg 222 18) [.inr (some 171), x1, x2, .inl i] [] (setc X 172 A) Q ↔ wp none (d + 1) 222 (zpg 222 61) [.inr (some 171), x1, x2, .inl y.2.2] [] (setc X 172 (lp (fun i A => ups A (23 * (y.1 i / 3) + (12 + y.1 i % 3)) (y.2.1 i)) n i A)) Q
  | 0, i, A, h0, h1, Q => by
    have e1 : setc X 172 A 171 22 = y.2.2 := by rw [setc_ne _ _ (by omega)]; exact h22
    conv => lhs; rw [pg_222_18]
    simp (disch := omega) only [wp_iload, wp_aload, wp_istore, wp_astore, wp_iinc, wp_iconst, wp_dup, wp_dup2, wp_pop, wp_iadd, wp_isub, wp_imul, wp_idiv, wp_irem, wp_ineg, wp_iand, wp_ior, wp_ixor, wp_ishl, wp_ishr, wp_getI, wp_putI, wp_getR, wp_goto, wp_goto_w, wq_if_eq, wq_if_ne, wq_if_lt, wq_if_ge, wq_if_gt, wq_if_le, wq_icmp_eq, wq_icmp_ne, wq_icmp_lt, wq_icmp_ge, wq_icmp_gt, wq_icmp_le, wp_max, wp_min, kI_inl, kR_some, kN_inl, kO_some, KT_none, KT_some, List.length_cons, List.length_nil, Nat.reduceAdd, Nat.reduceLT, Nat.reduceLeDiff, Nat.reduceMod, Nat.reduceDiv, true_and, and_true, Int.reduceLE, Int.reduceNeg, Int.reduceLT, Int.cast_ofNat_Int, Nat.zero_le, zI, Int.reduceAdd, Int.reduceSub, Int.reduceMul, not_true_eq_false, not_false_eq_true, false_implies, true_implies, i01_0, i01_1, ite_not, ↓reduceIte, zget_0, zget_1, zget_2, zget_3, zget_4, zget_5, zget_6, zget_7, zget_8, zget_9, zget_10, zset_0, zset_1, zset_2, zset_3, zset_4, zset_5, zset_6, zset_7, zset_8, zset_9, zset_10, kd_171, rf_171_0, rf_171_1, rf_171_3, rf_171_4, rf_171_5, rf_171_6, rf_171_7, rf_171_8, rf_171_10, rf_171_13, rf_171_14, rf_171_15, rf_171_16, rf_171_17, rf_171_20, rf_171_21, rf_171_27, rf_171_28, rf_171_29, rf_171_30, rf_171_31, e1, show y.2.2 ≤ i by omega, if_true, lp]
    rw [show i = y.2.2 by omega]
  | n + 1, i, A, h0, h1, Q => by
    have e1 : setc X 172 A 171 22 = y.2.2 := by rw [setc_ne _ _ (by omega)]; exact h22
    have e2 : setc X 172 A 186 = y.1 := by rw [setc_ne _ _ (by omega)]; exact h186
    have e3 : setc X 172 A 187 = y.2.1 := by rw [setc_ne _ _ (by omega)]; exact h187
    have hyi := hy.2 i h0 (by omega)
    have h3 := dm3 hyi.1
    have hpt := fun (f v : Int) Q (h : 0 ≤ f ∧ f < 23) => c_put (d := d) (im := setc X 172 A) (dv := y.1 i / 3) (f := f) (v := v) (Q := Q) (by omega) h
    simp only [setc_at, setc_setc] at hpt
    have ih := l_reput hy h6 h186 h187 h22 (x1 := x1) (x2 := x2) n (i + 1) (ups A (23 * (y.1 i / 3) + (12 + y.1 i % 3)) (y.2.1 i)) (by omega) (by omega) Q
    simp only [lp]
    rw [← ih]
    conv => lhs; rw [pg_222_18]
    simp (disch := omega) only [cw_143, wp_iload, wp_aload, wp_istore, wp_astore, wp_iinc, wp_iconst, wp_dup, wp_dup2, wp_pop, wp_iadd, wp_isub, wp_imul, wp_idiv, wp_irem, wp_ineg, wp_iand, wp_ior, wp_ixor, wp_ishl, wp_ishr, wp_getI, wp_putI, wp_getR, wp_goto, wp_goto_w, wq_if_eq, wq_if_ne, wq_if_lt, wq_if_ge, wq_if_gt, wq_if_le, wq_icmp_eq, wq_icmp_ne, wq_icmp_lt, wq_icmp_ge, wq_icmp_gt, wq_icmp_le, wp_max, wp_min, kI_inl, kR_some, kN_inl, kO_some, KT_none, KT_some, List.length_cons, List.length_nil, Nat.reduceAdd, Nat.reduceLT, Nat.reduceLeDiff, Nat.reduceMod, Nat.reduceDiv, true_and, and_true, Int.reduceLE, Int.reduceNeg, Int.reduceLT, Int.cast_ofNat_Int, Nat.zero_le, zI, Int.reduceAdd, Int.reduceSub, Int.reduceMul, not_true_eq_false, not_false_eq_true, false_implies, true_implies, i01_0, i01_1, ite_not, ↓reduceIte, zget_0, zget_1, zget_2, zget_3, zget_4, zget_5, zget_6, zget_7, zget_8, zget_9, zget_10, zset_0, zset_1, zset_2, zset_3, zset_4, zset_5, zset_6, zset_7, zset_8, zset_9, zset_10, kd_171, rf_171_0, rf_171_1, rf_171_3, rf_171_4, rf_171_5, rf_171_6, rf_171_7, rf_171_8, rf_171_10, rf_171_13, rf_171_14, rf_171_15, rf_171_16, rf_171_17, rf_171_20, rf_171_21, rf_171_27, rf_171_28, rf_171_29, rf_171_30, rf_171_31, e1, e2, e3, show ¬ y.2.2 ≤ i by omega, if_false, wp_iaload kd_186, wp_iaload kd_187, h3, hpt]
    try (repeat (refine (and_iff_right (by omega)).trans ?_))
    try exact Iff.rfl
/-- REBALANCE of the reference -/
def reA (im : zM) (dv : Int) : Int → Int := sbA (lp (fun i A => ups A (23 * ((tbY im dv).2.1.1 i / 3) + (12 + (tbY im dv).2.1.1 i % 3)) ((tbY im dv).2.1.2.1 i)) (tbY im dv).2.1.2.2.toNat 0 (im 172)) (tbY im dv).2.2.2.1 dv
theorem c_rebM (hm : HM im) (h : TbH im dv) (hg2 : 0 ≤ (tbR im dv).1 → MG (lp (fun i A => ups A (23 * ((tbY im dv).2.1.1 i / 3) + (12 + (tbY im dv).2.1.1 i % 3)) ((tbY im dv).2.1.2.1 i)) (tbY im dv).2.1.2.2.toNat 0 (im 172))) : CallP (d + 8) 222 [.inr (some 171), .inl dv] im Q ↔ if (tbR im dv).1 < 0 then Q (some (.inl (tbR im dv).1)) (tbR im dv).2 else Q (some (.inl (tbR im dv).1)) (setc (kaM (tbR im dv).2) 172 (reA im dv)) := by
  have ht := (c_tryReb (d := d) h).1
  by_cases c : (tbR im dv).1 < 0
  · rw [if_pos c]
    simp (disch := omega) only [en_222, wp_ireturn rk_222, pg_222_0, pg_222_12, pg_222_61, cw_143, cw_206, cw_220, cw_264, wp_iload, wp_aload, wp_istore, wp_astore, wp_iinc, wp_iconst, wp_dup, wp_dup2, wp_pop, wp_iadd, wp_isub, wp_imul, wp_idiv, wp_irem, wp_ineg, wp_iand, wp_ior, wp_ixor, wp_ishl, wp_ishr, wp_getI, wp_putI, wp_getR, wp_goto, wp_goto_w, wq_if_eq, wq_if_ne, wq_if_lt, wq_if_ge, wq_if_gt, wq_if_le, wq_icmp_eq, wq_icmp_ne, wq_icmp_lt, wq_icmp_ge, wq_icmp_gt, wq_icmp_le, wp_max, wp_min, kI_inl, kR_some, kN_inl, kO_some, KT_none, KT_some, List.length_cons, List.length_nil, Nat.reduceAdd, Nat.reduceLT, Nat.reduceLeDiff, Nat.reduceMod, Nat.reduceDiv, true_and, and_true, Int.reduceLE, Int.reduceNeg, Int.reduceLT, Int.cast_ofNat_Int, Nat.zero_le, zI, Int.reduceAdd, Int.reduceSub, Int.reduceMul, not_true_eq_false, not_false_eq_true, false_implies, true_implies, i01_0, i01_1, ite_not, ↓reduceIte, zget_0, zget_1, zget_2, zget_3, zget_4, zget_5, zget_6, zget_7, zget_8, zget_9, zget_10, zset_0, zset_1, zset_2, zset_3, zset_4, zset_5, zset_6, zset_7, zset_8, zset_9, zset_10, kd_171, rf_171_0, rf_171_1, rf_171_3, rf_171_4, rf_171_5, rf_171_6, rf_171_7, rf_171_8, rf_171_10, rf_171_13, rf_171_14, rf_171_15, rf_171_16, rf_171_17, rf_171_20, rf_171_21, rf_171_27, rf_171_28, rf_171_29, rf_171_30, rf_171_31, ht, show ¬ 0 ≤ (tbR im dv).1 by omega, if_false]
  · rw [if_neg c]
    have c1 : epM (im 172) dv ∧ ¬ onM (im 172) dv ∧ buOn (im 172) (buM (im 172) dv) := by
      by_cases q1 : ¬ epM (im 172) dv ∨ onM (im 172) dv
      · have : tbR im dv = (-1, im) := if_pos q1
        rw [this] at c
        dsimp only at c
        omega
      · by_cases q2 : buOn (im 172) (buM (im 172) dv)
        · exact ⟨Decidable.byContradiction fun q => q1 (Or.inl q), fun q => q1 (Or.inr q), q2⟩
        · have : tbR im dv = (-2, im) := by
            unfold tbR
            rw [if_neg q1, if_pos q2]
          rw [this] at c
          dsimp only at c
          omega
    have n1 : ¬ (¬ epM (im 172) dv ∨ onM (im 172) dv) := fun q => q.elim (fun q => q c1.1) c1.2.1
    have ec : tbR im dv = ((tbY im dv).1, mrm im (tbY im dv).2.1 (tbY im dv).2.2) := by
      unfold tbR
      rw [if_neg n1, if_neg (fun q => q c1.2.2)]
    have hd : 0 ≤ dv ∧ dv < 20 := ⟨c1.1.1.1, by have := c1.1.1.2.1; omega⟩
    have hl := l_tb (d := d + 1) (X := im) rfl h.1 hd h.2.1 c1.1.1 (h.2.2.1 c1.1.1 c1.2.2) 2 0 (0, (im 186, im 187, 0), rW (rbg im) (cwW (im 182))) (.inr none) (by omega) (by omega) (by dsimp only; omega) ⟨Int.le_refl _, fun i q0 q1 => by dsimp only at q1; omega⟩ (by dsimp only; omega) h.2.2.2
    have hMv : MvK (tbY im dv).2.1 := hl.1.1
    have h6 : (tbY im dv).2.1.2.2 ≤ 6 := hl.1.2.1
    have hg2' := hg2 (by omega)
    rw [ec] at ht ⊢
    have hH : HM (mrm im (tbY im dv).2.1 (tbY im dv).2.2) := by
      have e1 : ∀ f, f ≠ 18 → f ≠ 19 → f ≠ 22 → mrm im (tbY im dv).2.1 (tbY im dv).2.2 171 f = im 171 f := by
        intro f q1 q2 q3
        unfold mrm mvm
        rw [rbm_f q1 q2, setc_at, ups_ne _ _ q3]
      unfold HM
      rw [e1 32 (by omega) (by omega) (by omega), e1 33 (by omega) (by omega) (by omega)]
      exact hm
    have hk := fun Q => c_keepAct (d := d + 6) (im := mrm im (tbY im dv).2.1 (tbY im dv).2.2) (Q := Q) hH.1
    have eA : kaM (mrm im (tbY im dv).2.1 (tbY im dv).2.2) 172 = im 172 := by rw [kaM_A, mrm_A]
    have e22 : kaM (mrm im (tbY im dv).2.1 (tbY im dv).2.2) 171 22 = (tbY im dv).2.1.2.2 := by
      unfold kaM
      rw [setc_at, ups_ne _ _ (by omega), ups_ne _ _ (by omega)]
      exact mrm_n
    have e186 : kaM (mrm im (tbY im dv).2.1 (tbY im dv).2.2) 186 = (tbY im dv).2.1.1 := by
      rw [kaM_ne (by omega) (by omega)]
      exact mrm_1
    have e187 : kaM (mrm im (tbY im dv).2.1 (tbY im dv).2.2) 187 = (tbY im dv).2.1.2.1 := by
      rw [kaM_ne (by omega) (by omega)]
      exact mrm_2
    have hrp := l_reput (d := d + 7) (X := kaM (mrm im (tbY im dv).2.1 (tbY im dv).2.2)) hMv h6 e186 e187 e22 (x1 := .inl dv) (x2 := .inl (tbY im dv).1) (tbY im dv).2.1.2.2.toNat 0 (im 172) (by omega) (by have := hMv.1; omega) Q
    have e0 : setc (kaM (mrm im (tbY im dv).2.1 (tbY im dv).2.2)) 172 (im 172) = kaM (mrm im (tbY im dv).2.1 (tbY im dv).2.2) := by
      rw [← eA, setc_self]
    rw [e0] at hrp
    have c' : 0 ≤ (tbY im dv).1 := by rw [ec] at c; dsimp only at c; omega
    have e182 : kaM (mrm im (tbY im dv).2.1 (tbY im dv).2.2) 182 = (tbY im dv).2.2.2.1 := by
      rw [kaM_ne (by omega) (by omega)]
      exact rbm_W
    have hsb := fun A' (hA' : MG A') Q => c_setBases (d := d + 6) (im := setc (kaM (mrm im (tbY im dv).2.1 (tbY im dv).2.2)) 172 A') (dv := dv) (Q := Q) (by rw [setc_at]; exact hA') hd
    simp only [setc_at, setc_setc, setc_ne (kaM (mrm im (tbY im dv).2.1 (tbY im dv).2.2)) _ (show (182 : Nat) ≠ 172 by omega), e182] at hsb
    have hsb2 := hsb _ hg2'
    simp (disch := omega) only [en_222, pg_222_0, pg_222_12, cw_220, cw_264, wp_iload, wp_aload, wp_istore, wp_astore, wp_iinc, wp_iconst, wp_dup, wp_dup2, wp_pop, wp_iadd, wp_isub, wp_imul, wp_idiv, wp_irem, wp_ineg, wp_iand, wp_ior, wp_ixor, wp_ishl, wp_ishr, wp_getI, wp_putI, wp_getR, wp_goto, wp_goto_w, wq_if_eq, wq_if_ne, wq_if_lt, wq_if_ge, wq_if_gt, wq_if_le, wq_icmp_eq, wq_icmp_ne, wq_icmp_lt, wq_icmp_ge, wq_icmp_gt, wq_icmp_le, wp_max, wp_min, kI_inl, kR_some, kN_inl, kO_some, KT_none, KT_some, List.length_cons, List.length_nil, Nat.reduceAdd, Nat.reduceLT, Nat.reduceLeDiff, Nat.reduceMod, Nat.reduceDiv, true_and, and_true, Int.reduceLE, Int.reduceNeg, Int.reduceLT, Int.cast_ofNat_Int, Nat.zero_le, zI, Int.reduceAdd, Int.reduceSub, Int.reduceMul, not_true_eq_false, not_false_eq_true, false_implies, true_implies, i01_0, i01_1, ite_not, ↓reduceIte, zget_0, zget_1, zget_2, zget_3, zget_4, zget_5, zget_6, zget_7, zget_8, zget_9, zget_10, zset_0, zset_1, zset_2, zset_3, zset_4, zset_5, zset_6, zset_7, zset_8, zset_9, zset_10, kd_171, rf_171_0, rf_171_1, rf_171_3, rf_171_4, rf_171_5, rf_171_6, rf_171_7, rf_171_8, rf_171_10, rf_171_13, rf_171_14, rf_171_15, rf_171_16, rf_171_17, rf_171_20, rf_171_21, rf_171_27, rf_171_28, rf_171_29, rf_171_30, rf_171_31, ht, c', if_true, hk]
    rw [hrp, pg_222_61]
    simp (disch := omega) only [cw_206, wp_ireturn rk_222, wp_iload, wp_aload, wp_istore, wp_astore, wp_iinc, wp_iconst, wp_dup, wp_dup2, wp_pop, wp_iadd, wp_isub, wp_imul, wp_idiv, wp_irem, wp_ineg, wp_iand, wp_ior, wp_ixor, wp_ishl, wp_ishr, wp_getI, wp_putI, wp_getR, wp_goto, wp_goto_w, wq_if_eq, wq_if_ne, wq_if_lt, wq_if_ge, wq_if_gt, wq_if_le, wq_icmp_eq, wq_icmp_ne, wq_icmp_lt, wq_icmp_ge, wq_icmp_gt, wq_icmp_le, wp_max, wp_min, kI_inl, kR_some, kN_inl, kO_some, KT_none, KT_some, List.length_cons, List.length_nil, Nat.reduceAdd, Nat.reduceLT, Nat.reduceLeDiff, Nat.reduceMod, Nat.reduceDiv, true_and, and_true, Int.reduceLE, Int.reduceNeg, Int.reduceLT, Int.cast_ofNat_Int, Nat.zero_le, zI, Int.reduceAdd, Int.reduceSub, Int.reduceMul, not_true_eq_false, not_false_eq_true, false_implies, true_implies, i01_0, i01_1, ite_not, ↓reduceIte, zget_0, zget_1, zget_2, zget_3, zget_4, zget_5, zget_6, zget_7, zget_8, zget_9, zget_10, zset_0, zset_1, zset_2, zset_3, zset_4, zset_5, zset_6, zset_7, zset_8, zset_9, zset_10, kd_171, rf_171_0, rf_171_1, rf_171_3, rf_171_4, rf_171_5, rf_171_6, rf_171_7, rf_171_8, rf_171_10, rf_171_13, rf_171_14, rf_171_15, rf_171_16, rf_171_17, rf_171_20, rf_171_21, rf_171_27, rf_171_28, rf_171_29, rf_171_30, rf_171_31, hsb2]
    exact Iff.rfl
end MR4
