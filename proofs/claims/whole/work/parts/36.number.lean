/-! THE CLASS'S POWER-UP: numbering -/
section PB
variable {d s t u o : Nat} {im : zM} {Q : Option zV → zM → Prop} {a b v dv kd sl i j k f : Int}
theorem gt_stc (c : Int → Int) (dv f v e g : Int) : gt (stc c dv f v) e g = if e = dv ∧ g = f ∧ 0 ≤ dv ∧ dv < 20 ∧ 0 ≤ f ∧ f < 24 then v else gt c e g := by
  unfold stc
  split
  · rename_i h
    unfold gt
    by_cases h1 : 0 ≤ e ∧ e < 20 ∧ 0 ≤ g ∧ g < 24
    · rw [if_pos h1, if_pos h1]
      by_cases h2 : e = dv ∧ g = f
      · rw [h2.1, h2.2, ups_at, if_pos (by omega)]
      · rw [if_neg (by omega), ups_ne _ _ (by omega)]
    · rw [if_neg h1, if_neg h1, if_neg (by omega)]
  · rename_i h
    rw [if_neg (by omega)]
def NB (c : Int → Int) : Prop := ∀ e : Int, 0 ≤ e → e < 20 → 0 ≤ gt c e 4 ∧ gt c e 4 ≤ 1000
theorem NB_stc {c : Int → Int} (h : NB c) (hf : f ≠ 4) : NB (stc c dv f v) := by
  intro e h0 h1
  rw [gt_stc, if_neg (by omega)]
  exact h e h0 h1
theorem c_set1 (ht : zT t) {c : Int → Int} : CallP d 50 [.inr (some t), .inl dv, .inl f, .inl v] (setc im (t + 1) c) Q ↔ Q none (setc im (t + 1) (stc c dv f v)) := by
  unfold stc
  rw [c_set ht]
  split
  · rw [zu_setc, setc_at, setc_setc]
  · rfl
abbrev zNB : Type := Int × (Int → Int)
def nbf (w : Int → Int) (n : Int) (rec : Int → Int → (Int → Int) → zNB) (at' : Int) (i : Int) (y : zNB) : zNB :=
  if gt y.2 (wka w n i) 1 = at' then (if gt y.2 (wka w n i) 0 = 2 then (if y.1 ≤ 31 then (min ((rec (wka w n i) (y.1 + 1) (stc (stc y.2 (wka w n i) 3 1) (wka w n i) 7 y.1)).1 - 1 + gt (rec (wka w n i) (y.1 + 1) (stc (stc y.2 (wka w n i) 3 1) (wka w n i) 7 y.1)).2 (wka w n i) 4) 31 + 1, stc (rec (wka w n i) (y.1 + 1) (stc (stc y.2 (wka w n i) 3 1) (wka w n i) 7 y.1)).2 (wka w n i) 8 (min ((rec (wka w n i) (y.1 + 1) (stc (stc y.2 (wka w n i) 3 1) (wka w n i) 7 y.1)).1 - 1 + gt (rec (wka w n i) (y.1 + 1) (stc (stc y.2 (wka w n i) 3 1) (wka w n i) 7 y.1)).2 (wka w n i) 4) 31)) else y) else (y.1, stc y.2 (wka w n i) 3 1)) else y
def nbS (w : Int → Int) (n : Int) : Nat → Int → Int → (Int → Int) → zNB
  | 0, _, f, c => (f, c)
  | l + 1, a, f, c => lp (nbf w n (nbS w n l) a) n.toNat 0 (f, c)
theorem l_numb (ht : zT t) {w : Int → Int} {n : Int} (hW : im (t + 3) = w) (hN : im t 4 = n) (hn : n ≤ 20) {l : Nat} {dep f0 : Int} (hd : dep + (l + 1 : Nat) = 5) (hd0 : 0 ≤ dep)
    (IH : ∀ (a f : Int) (c : Int → Int), 1 ≤ f → f ≤ 32 → NB c → (∀ Q, CallP (d + l + 2) 20 [.inr (some t), .inl a, .inl f, .inl (dep + 1)] (setc im (t + 1) c) Q ↔ Q (some (.inl (nbS w n l a f c).1)) (setc im (t + 1) (nbS w n l a f c).2)) ∧ f ≤ (nbS w n l a f c).1 ∧ (nbS w n l a f c).1 ≤ 32 ∧ NB (nbS w n l a f c).2) :
    ∀ (m : Nat) (i nx : Int) (c : Int → Int) (x6 x7 x8 : zV), 0 ≤ i → i + m = (n.toNat : Nat) → 1 ≤ nx → nx ≤ 32 → NB c → (∀ Q, wp none (d + l + 3) 20 (zpg 20 6) [.inr (some t), .inl a, .inl f0, .inl dep, .inl nx, .inl i, x6, x7, x8] [] (setc im (t + 1) c) Q ↔ Q (some (.inl (lp (nbf w n (nbS w n l) a) m i (nx, c)).1)) (setc im (t + 1) (lp (nbf w n (nbS w n l) a) m i (nx, c)).2)) ∧ nx ≤ (lp (nbf w n (nbS w n l) a) m i (nx, c)).1 ∧ (lp (nbf w n (nbS w n l) a) m i (nx, c)).1 ≤ 32 ∧ NB (lp (nbf w n (nbS w n l) a) m i (nx, c)).2
  | 0, i, nx, c, x6, x7, x8, h0, h1, h2, h3, hc => by
    refine ⟨fun Q => ?_, Int.le_refl _, h3, hc⟩
    have k0 := (zT_k ht).1
    have m0 : ∀ c, setc im (t + 1) c t 4 = n := fun c => by rw [setc_ne _ _ (by omega), hN]
    rw [pg_20_6]
    simp (disch := omega) only [wp_ireturn rk_20, pg_20_42, pg_20_62, pg_20_137, pg_20_143, cw_20, cw_49, cw_50, cw_53, cw_58, wp_iload, wp_aload, wp_istore, wp_astore, wp_iinc, wp_iconst, wp_dup, wp_dup2, wp_pop, wp_iadd, wp_isub, wp_imul, wp_idiv, wp_irem, wp_ineg, wp_iand, wp_ior, wp_ixor, wp_ishl, wp_ishr, wp_getI, wp_putI, wp_getR, wp_goto, wp_goto_w, wq_if_eq, wq_if_ne, wq_if_lt, wq_if_ge, wq_if_gt, wq_if_le, wq_icmp_eq, wq_icmp_ne, wq_icmp_lt, wq_icmp_ge, wq_icmp_gt, wq_icmp_le, wp_max, wp_min, kI_inl, kR_some, kN_inl, kO_some, KT_none, KT_some, List.length_cons, List.length_nil, Nat.reduceAdd, Nat.reduceLT, Nat.reduceLeDiff, Nat.reduceMod, Nat.reduceDiv, true_and, and_true, Int.reduceLE, Int.reduceNeg, Int.reduceLT, Int.cast_ofNat_Int, Nat.zero_le, zI, Int.reduceAdd, Int.reduceSub, Int.reduceMul, not_true_eq_false, not_false_eq_true, false_implies, true_implies, i01_0, i01_1, ite_not, ↓reduceIte, zget_0, zget_1, zget_2, zget_3, zget_4, zget_5, zget_6, zget_7, zget_8, zget_9, zget_10, zset_0, zset_1, zset_2, zset_3, zset_4, zset_5, zset_6, zset_7, zset_8, zset_9, zset_10, k0, m0, show n ≤ i by omega, if_true, lp]
  | m + 1, i, nx, c, x6, x7, x8, h0, h1, h2, h3, hc => by
    have k0 := (zT_k ht).1
    have m0 : ∀ c, setc im (t + 1) c t 4 = n := fun c => by rw [setc_ne _ _ (by omega), hN]
    have m3 : ∀ c, setc im (t + 1) c (t + 3) = w := fun c => by rw [setc_ne _ _ (by omega), hW]
    have m1 : ∀ c, setc im (t + 1) c (t + 1) = c := fun c => setc_at _ _ _
    have ih := l_numb ht hW hN hn (f0 := f0) hd hd0 IH m (i + 1)
    have hi : ¬ n ≤ i := by omega
    have hdd : ¬ 4 < dep := by omega
    by_cases c1 : gt c (wka w n i) 1 = a
    · by_cases c2 : gt c (wka w n i) 0 = 2
      · by_cases c3 : nx ≤ 31
        · have hr : 0 ≤ wka w n i ∧ wka w n i < 20 := by
            have := c2
            unfold gt at this
            split at this
            · omega
            · omega
          obtain ⟨I1, I2, I3, I4⟩ := IH (wka w n i) (nx + 1) (stc (stc c (wka w n i) 3 1) (wka w n i) 7 nx) (by omega) (by omega) (NB_stc (NB_stc hc (by omega)) (by omega))
          have nb4 := I4 _ hr.1 hr.2
          have J := fun x6 x7 x8 => ih (min ((nbS w n l (wka w n i) (nx + 1) (stc (stc c (wka w n i) 3 1) (wka w n i) 7 nx)).1 - 1 + gt (nbS w n l (wka w n i) (nx + 1) (stc (stc c (wka w n i) 3 1) (wka w n i) 7 nx)).2 (wka w n i) 4) 31 + 1) (stc (nbS w n l (wka w n i) (nx + 1) (stc (stc c (wka w n i) 3 1) (wka w n i) 7 nx)).2 (wka w n i) 8 (min ((nbS w n l (wka w n i) (nx + 1) (stc (stc c (wka w n i) 3 1) (wka w n i) 7 nx)).1 - 1 + gt (nbS w n l (wka w n i) (nx + 1) (stc (stc c (wka w n i) 3 1) (wka w n i) 7 nx)).2 (wka w n i) 4) 31)) x6 x7 x8 (by omega) (by omega) (by omega) (by omega) (NB_stc I4 (by omega))
          have J0 := J (.inr none) (.inr none) (.inr none)
          have ef : lp (nbf w n (nbS w n l) a) (m + 1) i (nx, c) = lp (nbf w n (nbS w n l) a) m (i + 1) (min ((nbS w n l (wka w n i) (nx + 1) (stc (stc c (wka w n i) 3 1) (wka w n i) 7 nx)).1 - 1 + gt (nbS w n l (wka w n i) (nx + 1) (stc (stc c (wka w n i) 3 1) (wka w n i) 7 nx)).2 (wka w n i) 4) 31 + 1, stc (nbS w n l (wka w n i) (nx + 1) (stc (stc c (wka w n i) 3 1) (wka w n i) 7 nx)).2 (wka w n i) 8 (min ((nbS w n l (wka w n i) (nx + 1) (stc (stc c (wka w n i) 3 1) (wka w n i) 7 nx)).1 - 1 + gt (nbS w n l (wka w n i) (nx + 1) (stc (stc c (wka w n i) 3 1) (wka w n i) 7 nx)).2 (wka w n i) 4) 31)) := by
            simp only [lp, nbf, c1, c2, c3, if_true]
          rw [ef]
          refine ⟨fun Q => ?_, by omega, J0.2.2.1, J0.2.2.2⟩
          rw [pg_20_6]
          have hJ := fun x6 x7 x8 => (J x6 x7 x8).1
          clear J J0 ih IH ef
          simp (disch := omega) only [wp_ireturn rk_20, pg_20_42, pg_20_62, pg_20_137, pg_20_143, cw_20, cw_49, cw_50, cw_53, cw_58, wp_iload, wp_aload, wp_istore, wp_astore, wp_iinc, wp_iconst, wp_dup, wp_dup2, wp_pop, wp_iadd, wp_isub, wp_imul, wp_idiv, wp_irem, wp_ineg, wp_iand, wp_ior, wp_ixor, wp_ishl, wp_ishr, wp_getI, wp_putI, wp_getR, wp_goto, wp_goto_w, wq_if_eq, wq_if_ne, wq_if_lt, wq_if_ge, wq_if_gt, wq_if_le, wq_icmp_eq, wq_icmp_ne, wq_icmp_lt, wq_icmp_ge, wq_icmp_gt, wq_icmp_le, wp_max, wp_min, kI_inl, kR_some, kN_inl, kO_some, KT_none, KT_some, List.length_cons, List.length_nil, Nat.reduceAdd, Nat.reduceLT, Nat.reduceLeDiff, Nat.reduceMod, Nat.reduceDiv, true_and, and_true, Int.reduceLE, Int.reduceNeg, Int.reduceLT, Int.cast_ofNat_Int, Nat.zero_le, zI, Int.reduceAdd, Int.reduceSub, Int.reduceMul, not_true_eq_false, not_false_eq_true, false_implies, true_implies, i01_0, i01_1, ite_not, ↓reduceIte, zget_0, zget_1, zget_2, zget_3, zget_4, zget_5, zget_6, zget_7, zget_8, zget_9, zget_10, zset_0, zset_1, zset_2, zset_3, zset_4, zset_5, zset_6, zset_7, zset_8, zset_9, zset_10, k0, m0, m1, m3, hi, hdd, if_false, if_true, c_walkAt ht, c_get ht, c_isBridge ht, c_set1 ht, c1, c2, show ¬ 31 < nx by omega, I1, hJ]
          simp only [show ¬ (1 : Int) = 0 by omega, if_false]
          repeat (refine (and_iff_right (by omega)).trans ?_)
          exact Iff.rfl
        · have J := fun x6 x7 x8 => ih nx c x6 x7 x8 (by omega) (by omega) h2 h3 hc
          have J0 := J (.inr none) (.inr none) (.inr none)
          have ef : lp (nbf w n (nbS w n l) a) (m + 1) i (nx, c) = lp (nbf w n (nbS w n l) a) m (i + 1) (nx, c) := by
            simp only [lp, nbf, c1, c2, c3, if_true, if_false]
          rw [ef]
          refine ⟨fun Q => ?_, J0.2.1, J0.2.2.1, J0.2.2.2⟩
          rw [pg_20_6]
          have hJ := fun x6 x7 x8 => (J x6 x7 x8).1
          clear J J0 ih IH ef
          simp (disch := omega) only [wp_ireturn rk_20, pg_20_42, pg_20_62, pg_20_137, pg_20_143, cw_20, cw_49, cw_50, cw_53, cw_58, wp_iload, wp_aload, wp_istore, wp_astore, wp_iinc, wp_iconst, wp_dup, wp_dup2, wp_pop, wp_iadd, wp_isub, wp_imul, wp_idiv, wp_irem, wp_ineg, wp_iand, wp_ior, wp_ixor, wp_ishl, wp_ishr, wp_getI, wp_putI, wp_getR, wp_goto, wp_goto_w, wq_if_eq, wq_if_ne, wq_if_lt, wq_if_ge, wq_if_gt, wq_if_le, wq_icmp_eq, wq_icmp_ne, wq_icmp_lt, wq_icmp_ge, wq_icmp_gt, wq_icmp_le, wp_max, wp_min, kI_inl, kR_some, kN_inl, kO_some, KT_none, KT_some, List.length_cons, List.length_nil, Nat.reduceAdd, Nat.reduceLT, Nat.reduceLeDiff, Nat.reduceMod, Nat.reduceDiv, true_and, and_true, Int.reduceLE, Int.reduceNeg, Int.reduceLT, Int.cast_ofNat_Int, Nat.zero_le, zI, Int.reduceAdd, Int.reduceSub, Int.reduceMul, not_true_eq_false, not_false_eq_true, false_implies, true_implies, i01_0, i01_1, ite_not, ↓reduceIte, zget_0, zget_1, zget_2, zget_3, zget_4, zget_5, zget_6, zget_7, zget_8, zget_9, zget_10, zset_0, zset_1, zset_2, zset_3, zset_4, zset_5, zset_6, zset_7, zset_8, zset_9, zset_10, k0, m0, m1, m3, hi, hdd, if_false, if_true, c_walkAt ht, c_get ht, c_isBridge ht, c_set1 ht, c1, c2, show 31 < nx by omega, hJ]
          simp only [show ¬ (1 : Int) = 0 by omega, if_false]
          repeat (refine (and_iff_right (by omega)).trans ?_)
          exact Iff.rfl
      · have J := fun x6 x7 x8 => ih nx (stc c (wka w n i) 3 1) x6 x7 x8 (by omega) (by omega) h2 h3 (NB_stc hc (by omega))
        have J0 := J (.inr none) (.inr none) (.inr none)
        have ef : lp (nbf w n (nbS w n l) a) (m + 1) i (nx, c) = lp (nbf w n (nbS w n l) a) m (i + 1) (nx, (stc c (wka w n i) 3 1)) := by
          simp only [lp, nbf, c1, c2, if_true, if_false]
        rw [ef]
        refine ⟨fun Q => ?_, J0.2.1, J0.2.2.1, J0.2.2.2⟩
        rw [pg_20_6]
        have hJ := fun x6 x7 x8 => (J x6 x7 x8).1
        clear J J0 ih IH ef
        simp (disch := omega) only [wp_ireturn rk_20, pg_20_42, pg_20_62, pg_20_137, pg_20_143, cw_20, cw_49, cw_50, cw_53, cw_58, wp_iload, wp_aload, wp_istore, wp_astore, wp_iinc, wp_iconst, wp_dup, wp_dup2, wp_pop, wp_iadd, wp_isub, wp_imul, wp_idiv, wp_irem, wp_ineg, wp_iand, wp_ior, wp_ixor, wp_ishl, wp_ishr, wp_getI, wp_putI, wp_getR, wp_goto, wp_goto_w, wq_if_eq, wq_if_ne, wq_if_lt, wq_if_ge, wq_if_gt, wq_if_le, wq_icmp_eq, wq_icmp_ne, wq_icmp_lt, wq_icmp_ge, wq_icmp_gt, wq_icmp_le, wp_max, wp_min, kI_inl, kR_some, kN_inl, kO_some, KT_none, KT_some, List.length_cons, List.length_nil, Nat.reduceAdd, Nat.reduceLT, Nat.reduceLeDiff, Nat.reduceMod, Nat.reduceDiv, true_and, and_true, Int.reduceLE, Int.reduceNeg, Int.reduceLT, Int.cast_ofNat_Int, Nat.zero_le, zI, Int.reduceAdd, Int.reduceSub, Int.reduceMul, not_true_eq_false, not_false_eq_true, false_implies, true_implies, i01_0, i01_1, ite_not, ↓reduceIte, zget_0, zget_1, zget_2, zget_3, zget_4, zget_5, zget_6, zget_7, zget_8, zget_9, zget_10, zset_0, zset_1, zset_2, zset_3, zset_4, zset_5, zset_6, zset_7, zset_8, zset_9, zset_10, k0, m0, m1, m3, hi, hdd, if_false, if_true, c_walkAt ht, c_get ht, c_isBridge ht, c_set1 ht, c1, c2, hJ]
        repeat (refine (and_iff_right (by omega)).trans ?_)
        exact Iff.rfl
    · have J := fun x6 x7 x8 => ih nx c x6 x7 x8 (by omega) (by omega) h2 h3 hc
      have J0 := J (.inr none) (.inr none) (.inr none)
      have ef : lp (nbf w n (nbS w n l) a) (m + 1) i (nx, c) = lp (nbf w n (nbS w n l) a) m (i + 1) (nx, c) := by
        simp only [lp, nbf, c1, if_true, if_false]
      rw [ef]
      refine ⟨fun Q => ?_, J0.2.1, J0.2.2.1, J0.2.2.2⟩
      rw [pg_20_6]
      have hJ := fun x6 x7 x8 => (J x6 x7 x8).1
      clear J J0 ih IH ef
      simp (disch := omega) only [wp_ireturn rk_20, pg_20_42, pg_20_62, pg_20_137, pg_20_143, cw_20, cw_49, cw_50, cw_53, cw_58, wp_iload, wp_aload, wp_istore, wp_astore, wp_iinc, wp_iconst, wp_dup, wp_dup2, wp_pop, wp_iadd, wp_isub, wp_imul, wp_idiv, wp_irem, wp_ineg, wp_iand, wp_ior, wp_ixor, wp_ishl, wp_ishr, wp_getI, wp_putI, wp_getR, wp_goto, wp_goto_w, wq_if_eq, wq_if_ne, wq_if_lt, wq_if_ge, wq_if_gt, wq_if_le, wq_icmp_eq, wq_icmp_ne, wq_icmp_lt, wq_icmp_ge, wq_icmp_gt, wq_icmp_le, wp_max, wp_min, kI_inl, kR_some, kN_inl, kO_some, KT_none, KT_some, List.length_cons, List.length_nil, Nat.reduceAdd, Nat.reduceLT, Nat.reduceLeDiff, Nat.reduceMod, Nat.reduceDiv, true_and, and_true, Int.reduceLE, Int.reduceNeg, Int.reduceLT, Int.cast_ofNat_Int, Nat.zero_le, zI, Int.reduceAdd, Int.reduceSub, Int.reduceMul, not_true_eq_false, not_false_eq_true, false_implies, true_implies, i01_0, i01_1, ite_not, ↓reduceIte, zget_0, zget_1, zget_2, zget_3, zget_4, zget_5, zget_6, zget_7, zget_8, zget_9, zget_10, zset_0, zset_1, zset_2, zset_3, zset_4, zset_5, zset_6, zset_7, zset_8, zset_9, zset_10, k0, m0, m1, m3, hi, hdd, if_false, if_true, c_walkAt ht, c_get ht, c_isBridge ht, c_set1 ht, c1, hJ]
      repeat (refine (and_iff_right (by omega)).trans ?_)
      exact Iff.rfl
theorem c_numberBus (ht : zT t) {w : Int → Int} {n : Int} (hW : im (t + 3) = w) (hN : im t 4 = n) (hn : n ≤ 20) : ∀ (l : Nat) (dep a f : Int) (c : Int → Int), dep + l = 5 → 0 ≤ dep → 1 ≤ f → f ≤ 32 → NB c → (∀ Q, CallP (d + l + 2) 20 [.inr (some t), .inl a, .inl f, .inl dep] (setc im (t + 1) c) Q ↔ Q (some (.inl (nbS w n l a f c).1)) (setc im (t + 1) (nbS w n l a f c).2)) ∧ f ≤ (nbS w n l a f c).1 ∧ (nbS w n l a f c).1 ≤ 32 ∧ NB (nbS w n l a f c).2
  | 0, dep, a, f, c, h0, h1, h2, h3, hc => by
    refine ⟨fun Q => ?_, Int.le_refl _, h3, hc⟩
    have k0 := (zT_k ht).1
    have m0 : ∀ c, setc im (t + 1) c t 4 = n := fun c => by rw [setc_ne _ _ (by omega), hN]
    simp (disch := omega) only [en_20, wp_ireturn rk_20, pg_20_0, pg_20_42, pg_20_62, pg_20_137, pg_20_143, cw_20, cw_49, cw_50, cw_53, cw_58, pg_20_6, wp_iload, wp_aload, wp_istore, wp_astore, wp_iinc, wp_iconst, wp_dup, wp_dup2, wp_pop, wp_iadd, wp_isub, wp_imul, wp_idiv, wp_irem, wp_ineg, wp_iand, wp_ior, wp_ixor, wp_ishl, wp_ishr, wp_getI, wp_putI, wp_getR, wp_goto, wp_goto_w, wq_if_eq, wq_if_ne, wq_if_lt, wq_if_ge, wq_if_gt, wq_if_le, wq_icmp_eq, wq_icmp_ne, wq_icmp_lt, wq_icmp_ge, wq_icmp_gt, wq_icmp_le, wp_max, wp_min, kI_inl, kR_some, kN_inl, kO_some, KT_none, KT_some, List.length_cons, List.length_nil, Nat.reduceAdd, Nat.reduceLT, Nat.reduceLeDiff, Nat.reduceMod, Nat.reduceDiv, true_and, and_true, Int.reduceLE, Int.reduceNeg, Int.reduceLT, Int.cast_ofNat_Int, Nat.zero_le, zI, Int.reduceAdd, Int.reduceSub, Int.reduceMul, not_true_eq_false, not_false_eq_true, false_implies, true_implies, i01_0, i01_1, ite_not, ↓reduceIte, zget_0, zget_1, zget_2, zget_3, zget_4, zget_5, zget_6, zget_7, zget_8, zget_9, zget_10, zset_0, zset_1, zset_2, zset_3, zset_4, zset_5, zset_6, zset_7, zset_8, zset_9, zset_10, k0, m0, show 4 < dep by omega, if_true, nbS, ite_self]
  | l + 1, dep, a, f, c, h0, h1, h2, h3, hc => by
    have k0 := (zT_k ht).1
    have IH := fun (a f : Int) (c : Int → Int) (h2 : 1 ≤ f) (h3 : f ≤ 32) (hc : NB c) => c_numberBus ht hW hN hn l (dep + 1) a f c (by omega) (by omega) h2 h3 hc
    have hl := l_numb (d := d) ht hW hN hn (a := a) (f0 := f) h0 h1 IH n.toNat 0 f c (.inr none) (.inr none) (.inr none) (by omega) (by omega) h2 h3 hc
    refine ⟨fun Q => ?_, hl.2⟩
    have hq := hl.1 Q
    simp (disch := omega) only [en_20, wp_ireturn rk_20, pg_20_0, pg_20_42, pg_20_62, pg_20_137, pg_20_143, cw_20, cw_49, cw_50, cw_53, cw_58, wp_iload, wp_aload, wp_istore, wp_astore, wp_iinc, wp_iconst, wp_dup, wp_dup2, wp_pop, wp_iadd, wp_isub, wp_imul, wp_idiv, wp_irem, wp_ineg, wp_iand, wp_ior, wp_ixor, wp_ishl, wp_ishr, wp_getI, wp_putI, wp_getR, wp_goto, wp_goto_w, wq_if_eq, wq_if_ne, wq_if_lt, wq_if_ge, wq_if_gt, wq_if_le, wq_icmp_eq, wq_icmp_ne, wq_icmp_lt, wq_icmp_ge, wq_icmp_gt, wq_icmp_le, wp_max, wp_min, kI_inl, kR_some, kN_inl, kO_some, KT_none, KT_some, List.length_cons, List.length_nil, Nat.reduceAdd, Nat.reduceLT, Nat.reduceLeDiff, Nat.reduceMod, Nat.reduceDiv, true_and, and_true, Int.reduceLE, Int.reduceNeg, Int.reduceLT, Int.cast_ofNat_Int, Nat.zero_le, zI, Int.reduceAdd, Int.reduceSub, Int.reduceMul, not_true_eq_false, not_false_eq_true, false_implies, true_implies, i01_0, i01_1, ite_not, ↓reduceIte, zget_0, zget_1, zget_2, zget_3, zget_4, zget_5, zget_6, zget_7, zget_8, zget_9, zget_10, zset_0, zset_1, zset_2, zset_3, zset_4, zset_5, zset_6, zset_7, zset_8, zset_9, zset_10, nbS]
    exact hq
end PB
