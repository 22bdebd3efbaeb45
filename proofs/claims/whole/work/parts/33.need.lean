/-! THE CLASS'S POWER-UP: what a BUS needs -/
section PN
variable {d s t u o : Nat} {im : zM} {Q : Option zV → zM → Prop} {a b v dv kd sl i j : Int}
theorem SBd_addS {z : zSS} {e1 e2 e3 e4 e5 : Int} (h : SBd z) (h3 : 1 ≤ e3 ∧ e3 ≤ 1048576) (h4 : 0 ≤ e4 ∧ e4 ≤ 33554432) : SBd (addS z e1 e2 e3 e4 e5) := by
  unfold addS
  split
  · intro i hi hi1 hi2
    dsimp only at hi2 ⊢
    by_cases e : i = z.2.2.2.2.2
    · rw [e, ups_at, ups_at]
      exact ⟨h3, h4⟩
    · rw [ups_ne _ _ e, ups_ne _ _ e]
      exact h i hi hi1 (by omega)
  · exact h
theorem lp_keep {S : Type} {P : S → Prop} {f : Int → S → S} (h : ∀ i s, P s → P (f i s)) : ∀ (n : Nat) (i : Int) (s : S), P s → P (lp f n i s)
  | 0, _, _, hs => hs
  | n + 1, i, s, hs => lp_keep h n (i + 1) (f i s) (h i s hs)
theorem lp_keep' {S : Type} {P : S → Prop} {f : Int → S → S} {N : Int} (h : ∀ i s, 0 ≤ i → i < N → P s → P (f i s)) : ∀ (n : Nat) (i : Int) (s : S), 0 ≤ i → i + n ≤ N → P s → P (lp f n i s)
  | 0, _, _, _, _, hs => hs
  | n + 1, i, s, h0, h1, hs => lp_keep' h n (i + 1) (f i s) (by omega) (by omega) (h i s h0 (by omega) hs)
/-- the sizes and windows of a tree -/
def TW (c : Int → Int) (k : Int) : Prop := ∀ e : Int, 0 ≤ e → e < 20 → gt c e 3 = 1 → (∀ a : Int, 0 ≤ a → a < gt c e 6 → 1 ≤ gt c e (12 + a) ∧ gt c e (12 + a) ≤ 1048576) ∧ (gt c e 0 ≠ 1 → 0 < gt c e (20 + k) → gt c e (20 + k) ≤ 33554432 ∧ 1 ≤ gt c e (22 + k) ∧ gt c e (22 + k) ≤ 1048576)
theorem SBd_gatS {c w : Int → Int} {n at' k : Int} {z : zSS} (h : TW c k) : SBd (gatS c w n at' k z) := by
  unfold gatS
  refine lp_keep (P := SBd) ?_ _ _ _ ?_
  · intro i z hz
    unfold gaf
    split
    · rename_i hc
      have hr : 0 ≤ wka w n i ∧ wka w n i < 20 := by
        have := hc.2
        unfold gt at this
        split at this
        · omega
        · omega
      have hh := h _ hr.1 hr.2 hc.2
      split
      · unfold apsS
        refine lp_keep' (P := SBd) (N := (gt c (wka w n i) 6).toNat) ?_ _ _ _ (by omega) (by omega) hz
        intro a z h0 h1 hz
        unfold apsf
        split
        · have := hh.1 a h0 (by omega)
          exact SBd_addS hz this (by omega)
        · exact hz
      · split
        · rename_i h1 h2
          have := hh.2 h1 h2
          exact SBd_addS hz this.2 (by omega)
        · exact hz
    · exact hz
  · intro i h0 h1 h2
    have : (clrS z).2.2.2.2.2 = 0 := rfl
    omega
theorem SBd_sw5 {z : zSS} {j : Int} (h : SBd z) (h0 : 0 < j ∧ j < 27) (h1 : j < z.2.2.2.2.2) : SBd (sw5 z j) := by
  intro i hi hi1 hi2
  have b1 := h j (by omega) (by omega) h1
  have b2 := h (j - 1) (by omega) (by omega) (by omega)
  have b3 := h i hi hi1 hi2
  show (1 ≤ swf z.2.2.1 j i ∧ swf z.2.2.1 j i ≤ 1048576) ∧ (0 ≤ swf z.2.2.2.1 j i ∧ swf z.2.2.2.1 j i ≤ 33554432)
  unfold swf
  by_cases e : i = j - 1
  · rw [e, ups_at, ups_at]
    exact b1
  · rw [ups_ne _ _ e, ups_ne _ _ e]
    by_cases e : i = j
    · rw [e, ups_at, ups_at]
      exact b2
    · rw [ups_ne _ _ e, ups_ne _ _ e]
      exact b3
theorem SBd_ordI : ∀ (j : Nat) (z : zSS), SBd z → j < 27 → (j : Int) < z.2.2.2.2.2 → SBd (ordI j z)
  | 0, z, h, _, _ => by
    simp only [ordI]
    exact h
  | j + 1, z, h, h1, h2 => by
    simp only [ordI]
    split
    · refine SBd_ordI j _ (SBd_sw5 h (by omega) (by omega)) (by omega) ?_
      show (j : Int) < z.2.2.2.2.2
      omega
    · exact h
theorem SBd_ordS {z : zSS} (h : SBd z) : SBd (ordS z) := by
  have := lp_keep' (P := fun y : zSS => SBd y ∧ y.2.2.2.2.2 = z.2.2.2.2.2) (f := ordf) (N := min z.2.2.2.2.2 27) (fun i y h0 h1 hy => ⟨SBd_ordI i.toNat y hy.1 (by omega) (by have := hy.2; omega), by unfold ordf; rw [ordI_n]; exact hy.2⟩) (min z.2.2.2.2.2 27 - 1).toNat 1 z (by omega)
  by_cases e : 1 ≤ min z.2.2.2.2.2 27
  · exact (this (by omega) ⟨h, rfl⟩).1
  · unfold ordS
    rw [show (min z.2.2.2.2.2 27 - 1).toNat = 0 by omega]
    exact h
theorem c_isOnBridge (ht : zT t) : CallP (d + 1) 22 [.inr (some t), .inl dv] im Q ↔ Q (some (.inl (if gt (im (t + 1)) dv 0 = 2 ∧ gt (im (t + 1)) dv 3 = 1 then 1 else 0))) im := by
  have k0 := (zT_k ht).1
  simp (disch := omega) only [en_22, wp_zreturn rk_22, pg_22_0, pg_22_24, pg_22_25, cw_49, wp_iload, wp_aload, wp_istore, wp_astore, wp_iinc, wp_iconst, wp_dup, wp_dup2, wp_pop, wp_iadd, wp_isub, wp_imul, wp_idiv, wp_irem, wp_ineg, wp_iand, wp_ior, wp_ixor, wp_ishl, wp_ishr, wp_getI, wp_putI, wp_getR, wp_goto, wp_goto_w, wq_if_eq, wq_if_ne, wq_if_lt, wq_if_ge, wq_if_gt, wq_if_le, wq_icmp_eq, wq_icmp_ne, wq_icmp_lt, wq_icmp_ge, wq_icmp_gt, wq_icmp_le, wp_max, wp_min, kI_inl, kR_some, kN_inl, kO_some, KT_none, KT_some, List.length_cons, List.length_nil, Nat.reduceAdd, Nat.reduceLT, Nat.reduceLeDiff, Nat.reduceMod, Nat.reduceDiv, true_and, and_true, Int.reduceLE, Int.reduceNeg, Int.reduceLT, Int.cast_ofNat_Int, Nat.zero_le, zI, Int.reduceAdd, Int.reduceSub, Int.reduceMul, not_true_eq_false, not_false_eq_true, false_implies, true_implies, i01_0, i01_1, ite_not, ↓reduceIte, zget_0, zget_1, zget_2, zget_3, zget_4, zget_5, zget_6, zget_7, zget_8, zget_9, zget_10, zset_0, zset_1, zset_2, zset_3, zset_4, zset_5, zset_6, zset_7, zset_8, zset_9, zset_10, k0, c_get ht]
  clear k0
  grind (splits := 20)
theorem zSh_132 : zSh 132 := by decide
theorem kd_132 : K0[132]? = some (7, 0) := (zSh_k zSh_132).1
def setB (z : zSS) (b : Int → Int) : zSS := (z.1, z.2.1, z.2.2.1, z.2.2.2.1, b, z.2.2.2.2.2)
theorem sth_setB (im : zM) (s : Nat) (z : zSS) (b : Int → Int) : setc (sth im s z) (s + 5) b = sth im s (setB z b) := by
  funext p
  by_cases h : p < s ∨ s + 5 < p
  · rw [sth_ne _ _ h, setc_ne _ (o := s + 5) _ (by omega), sth_ne _ _ h]
  · by_cases h5 : p = s + 5
    · rw [h5, setc_at, sth_5]
      rfl
    · rw [setc_ne _ (o := s + 5) _ (by omega)]
      by_cases h0 : p = s
      · rw [h0]
        unfold sth
        rw [setc_at, setc_at]
        rfl
      · have hp : p = s + 1 ∨ p = s + 2 ∨ p = s + 3 ∨ p = s + 4 := by omega
        rcases hp with e | e | e | e
        · rw [e, sth_1, sth_1]
          rfl
        · rw [e, sth_2, sth_2]
          rfl
        · rw [e, sth_3, sth_3]
          rfl
        · rw [e, sth_4, sth_4]
          rfl
noncomputable def ordG (im : zM) (t : Nat) (a k : Int) : zSS := ordS (gatS (im (t + 1)) (im (t + 3)) (im t 4) a k (gsh im 132))
theorem c_needOf (ht : zT t) (hb : TB (im (t + 1))) (hw : TW (im (t + 1)) kd) (hk : 0 ≤ kd ∧ kd < 2) (hn : im t 4 ≤ 20) : CallP (d + 4) 23 [.inr (some 131), .inr (some t), .inl a, .inl kd] im Q ↔ Q (some (.inl (layS (ordG im t a kd)).1)) (sth im 132 (setB (ordG im t a kd) (layS (ordG im t a kd)).2)) := by
  have hg := SBd_ordS (SBd_gatS (c := im (t + 1)) (w := im (t + 3)) (n := im t 4) (at' := a) (z := gsh im 132) hw)
  have ho := fun (y : zSS) (Q : Option zV → zM → Prop) => c_order (d := d + 2) (im := sth im 132 y) (Q := Q) zSh_132
  have hl := fun (y : zSS) (Q : Option zV → zM → Prop) (h : SBd y) => c_lay (d := d + 2) (im := sth im 132 y) (Q := Q) zSh_132 (by rw [gsh_sth]; exact h)
  have hgt := fun (Q : Option zV → zM → Prop) => c_gather (d := d) (im := im) (Q := Q) (a := a) ht zSh_132 hb hk hn
  simp (disch := first | omega | assumption) only [en_23, wp_ireturn rk_23, pg_23_0, cw_33, cw_37, cw_40, wp_iload, wp_aload, wp_istore, wp_astore, wp_iinc, wp_iconst, wp_dup, wp_dup2, wp_pop, wp_iadd, wp_isub, wp_imul, wp_idiv, wp_irem, wp_ineg, wp_iand, wp_ior, wp_ixor, wp_ishl, wp_ishr, wp_getI, wp_putI, wp_getR, wp_goto, wp_goto_w, wq_if_eq, wq_if_ne, wq_if_lt, wq_if_ge, wq_if_gt, wq_if_le, wq_icmp_eq, wq_icmp_ne, wq_icmp_lt, wq_icmp_ge, wq_icmp_gt, wq_icmp_le, wp_max, wp_min, kI_inl, kR_some, kN_inl, kO_some, KT_none, KT_some, List.length_cons, List.length_nil, Nat.reduceAdd, Nat.reduceLT, Nat.reduceLeDiff, Nat.reduceMod, Nat.reduceDiv, true_and, and_true, Int.reduceLE, Int.reduceNeg, Int.reduceLT, Int.cast_ofNat_Int, Nat.zero_le, zI, Int.reduceAdd, Int.reduceSub, Int.reduceMul, not_true_eq_false, not_false_eq_true, false_implies, true_implies, i01_0, i01_1, ite_not, ↓reduceIte, zget_0, zget_1, zget_2, zget_3, zget_4, zget_5, zget_6, zget_7, zget_8, zget_9, zget_10, zset_0, zset_1, zset_2, zset_3, zset_4, zset_5, zset_6, zset_7, zset_8, zset_9, zset_10, kd_131, kd_132, rf_131_0, hgt, ho, hl, gsh_sth, sth_sth, sth_setB]
  rfl
theorem c_alignOf (ht : zT t) (hb : TB (im (t + 1))) (hk : 0 ≤ kd ∧ kd < 2) (hn : im t 4 ≤ 20) : CallP (d + 4) 24 [.inr (some 131), .inr (some t), .inl a, .inl kd] im Q ↔ Q (some (.inl (galS (gatS (im (t + 1)) (im (t + 3)) (im t 4) a kd (gsh im 132))))) (sth im 132 (gatS (im (t + 1)) (im (t + 3)) (im t 4) a kd (gsh im 132))) := by
  have ho := fun (y : zSS) (Q : Option zV → zM → Prop) => c_greatestAlign (d := d + 2) (im := sth im 132 y) (Q := Q) zSh_132
  have hgt := fun (Q : Option zV → zM → Prop) => c_gather (d := d) (im := im) (Q := Q) (a := a) ht zSh_132 hb hk hn
  simp (disch := first | omega | assumption) only [en_24, wp_ireturn rk_24, pg_24_0, cw_33, cw_42, wp_iload, wp_aload, wp_istore, wp_astore, wp_iinc, wp_iconst, wp_dup, wp_dup2, wp_pop, wp_iadd, wp_isub, wp_imul, wp_idiv, wp_irem, wp_ineg, wp_iand, wp_ior, wp_ixor, wp_ishl, wp_ishr, wp_getI, wp_putI, wp_getR, wp_goto, wp_goto_w, wq_if_eq, wq_if_ne, wq_if_lt, wq_if_ge, wq_if_gt, wq_if_le, wq_icmp_eq, wq_icmp_ne, wq_icmp_lt, wq_icmp_ge, wq_icmp_gt, wq_icmp_le, wp_max, wp_min, kI_inl, kR_some, kN_inl, kO_some, KT_none, KT_some, List.length_cons, List.length_nil, Nat.reduceAdd, Nat.reduceLT, Nat.reduceLeDiff, Nat.reduceMod, Nat.reduceDiv, true_and, and_true, Int.reduceLE, Int.reduceNeg, Int.reduceLT, Int.cast_ofNat_Int, Nat.zero_le, zI, Int.reduceAdd, Int.reduceSub, Int.reduceMul, not_true_eq_false, not_false_eq_true, false_implies, true_implies, i01_0, i01_1, ite_not, ↓reduceIte, zget_0, zget_1, zget_2, zget_3, zget_4, zget_5, zget_6, zget_7, zget_8, zget_9, zget_10, zset_0, zset_1, zset_2, zset_3, zset_4, zset_5, zset_6, zset_7, zset_8, zset_9, zset_10, kd_131, kd_132, rf_131_0, hgt, ho, gsh_sth]
end PN
