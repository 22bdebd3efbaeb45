/-! THE STEPS gap and law -/
section BL
variable {im X Y : zM} {c c' s sp A B w w' T : Int → Int} {e f a b x y d k m n u bu : Int} {z : zSS} {p q r : Int → Bool}
theorem smL_swap {α β : Type} {F : α → β → Int} (m : List β) : ∀ l : List α, smL (fun x => smL (fun y => F x y) m) l = smL (fun y => smL (fun x => F x y) l) m
  | [] => by
    simp only [smL]
    exact (smL_0 m (fun _ _ => rfl)).symm
  | x :: l => by
    simp only [smL]
    rw [smL_swap m l]
    induction m with
    | nil => rfl
    | cons y m ih =>
      simp only [smL]
      omega
/-- a stretch within -/
theorem cv_in {q : Int × Int} : ∀ (m : Nat) (i : Int), 0 ≤ q.2 → smL (fun v => cvP v q) (rgL i m) = max 0 (min (i + m) (q.1 + q.2) - max i q.1)
  | 0, i, h => by
    simp only [rgL, smL]
    omega
  | m + 1, i, h => by
    simp only [rgL, smL]
    rw [cv_in m (i + 1) h]
    unfold cvP
    split <;> omega
theorem cv_shift {q : Int × Int} {b : Int} : ∀ (m : Nat) (i : Int), smL (fun v => cvP (b + v) q) (rgL i m) = smL (fun v => cvP v q) (rgL (b + i) m)
  | 0, _ => rfl
  | m + 1, i => by
    simp only [rgL, smL]
    rw [cv_shift m (i + 1), show b + (i + 1) = b + i + 1 by omega]
/-- things apart cover no unit twice -/
theorem cv_le1 {f : Int → Int × Int} : ∀ l : List Int, l.Nodup → (∀ t ∈ l, ∀ o ∈ l, t ≠ o → (f t).1 + (f t).2 ≤ (f o).1 ∨ (f o).1 + (f o).2 ≤ (f t).1) → 0 ≤ smL (fun t => cvP u (f t)) l ∧ smL (fun t => cvP u (f t)) l ≤ 1
  | [], _, _ => by simp only [smL]; omega
  | x :: l, h1, h2 => by
    obtain ⟨a1, a2⟩ := List.nodup_cons.mp h1
    have ih := cv_le1 l a2 (fun t ht o ho => h2 t (List.mem_cons_of_mem _ ht) o (List.mem_cons_of_mem _ ho))
    simp only [smL]
    by_cases q : (f x).1 ≤ u ∧ u < (f x).1 + (f x).2
    · have e1 : cvP u (f x) = 1 := if_pos q
      have e2 : smL (fun t => cvP u (f t)) l = 0 := smL_0 l (fun t ht => by
        have hne : t ≠ x := fun s => a1 (s ▸ ht)
        have := h2 t (List.mem_cons_of_mem _ ht) x List.mem_cons_self hne
        unfold cvP
        rw [if_neg (by omega)])
      rw [e1, e2]
      omega
    · have e1 : cvP u (f x) = 0 := if_neg q
      rw [e1]
      omega
theorem cnt_sm {T : Int → Int} {b : Int} : ∀ (m : Nat) (i s : Int), (∀ j : Int, i ≤ j → j < i + m → 0 ≤ T (b + j) ∧ T (b + j) ≤ 1) → lp (cntf (gaB T b)) m i s = s + m - smL (fun j => T (b + j)) (rgL i m)
  | 0, i, s, _ => by simp only [lp, rgL, smL]; omega
  | m + 1, i, s, h => by
    simp only [lp, rgL, smL]
    rw [cnt_sm m (i + 1) _ (fun j j0 j1 => h j (by omega) (by omega))]
    have h0 := h i (by omega) (by omega)
    unfold cntf gaB
    by_cases q : T (b + i) = 0
    · rw [decide_eq_true q, if_pos rfl]
      omega
    · rw [decide_eq_false q, if_neg (by decide)]
      omega
/-- gaps: what is wide less what things take -/
theorem ga_now (g : gGd A) (ha : a = -1 ∨ onBr A a) (hk : 0 ≤ k ∧ k < 2) : gaM A T (bfM a) k = wiM A (bfM a) k - smL (fun t => wdT A t k) (reT A (bfM a) k) := by
  obtain ⟨b1, b2, b3⟩ := bw_now g ha hk
  have hTR := TR_la (T := T) (bu := bfM a) (k := k) g.1.1
  have hN := nodup_reT (bu := bfM a) (k := k) g.1.1
  have hmem : ∀ t ∈ reT A (bfM a) k, 0 < wiM A (bfM a) k ∧ beM A (bfM a) k ≤ bgT A t k ∧ bgT A t k + wdT A t k ≤ beM A (bfM a) k + wiM A (bfM a) k ∧ 0 ≤ wdT A t k := fun t ht => by
    obtain ⟨t0, t1, hi, hb⟩ := (mem_reT g.1.1).mp ht
    have := g.2.2.2.2.2.1 t k t0 t1 hk.1 hk.2 hi
    rw [hb] at this
    exact ⟨this.1, this.2.1, this.2.2.1, (bgT_bd g.1.1 ⟨t0, t1⟩ hk).2.1⟩
  have hap : ∀ t ∈ reT A (bfM a) k, ∀ o ∈ reT A (bfM a) k, t ≠ o → (prT A k t).1 + (prT A k t).2 ≤ (prT A k o).1 ∨ (prT A k o).1 + (prT A k o).2 ≤ (prT A k t).1 := fun t ht o ho hne => by
    obtain ⟨t0, t1, hi, hb⟩ := (mem_reT g.1.1).mp ht
    obtain ⟨o0, o1, hj, hb'⟩ := (mem_reT g.1.1).mp ho
    refine g.2.2.2.2.2.2 t o k t0 t1 o0 o1 hne hk.1 hk.2 hi hj ?_
    rw [(bu_iff g.1.1 (de_rg ⟨t0, t1⟩) (bus_rg ha)).mp hb, (bu_iff g.1.1 (de_rg ⟨o0, o1⟩) (bus_rg ha)).mp hb']
  by_cases hw : wiM A (bfM a) k = 0
  · have e0 : smL (fun t => wdT A t k) (reT A (bfM a) k) = 0 := smL_0 _ (fun t ht => by
      have := (hmem t ht).1
      omega)
    unfold gaM
    rw [e0, hw]
    rfl
  · have hbw := b3.resolve_left hw
    unfold gaM
    rw [cnt_sm _ _ _ (fun j j0 j1 => by
      rw [hTR _ (by omega) (by omega), smL_map]
      exact cv_le1 _ hN hap)]
    have e1 : smL (fun j => laT A T (bfM a) k (beM A (bfM a) k + j)) (rgL 0 (wiM A (bfM a) k).toNat) = smL (fun j => smL (fun t => cvP (beM A (bfM a) k + j) (prT A k t)) (reT A (bfM a) k)) (rgL 0 (wiM A (bfM a) k).toNat) := smL_congr _ (fun j hj => by
      have hj := (mem_rgL _ _ _).mp hj
      rw [hTR _ (by omega) (by omega), smL_map])
    rw [e1, smL_swap]
    have e2 : smL (fun t => smL (fun j => cvP (beM A (bfM a) k + j) (prT A k t)) (rgL 0 (wiM A (bfM a) k).toNat)) (reT A (bfM a) k) = smL (fun t => wdT A t k) (reT A (bfM a) k) := smL_congr _ (fun t ht => by
      obtain ⟨h1, h2, h3, h4⟩ := hmem t ht
      rw [cv_shift, cv_in _ _ (by unfold prT; exact h4)]
      unfold prT
      dsimp only
      omega)
    rw [e2]
    omega
theorem hs_iff (hc : SimC c A) : hsB c a k ↔ iwM A a k := by
  rw [iw_iff]
  unfold hsB
  rw [sc_onBr hc]
  exact and_congr Iff.rfl ⟨fun q => by omega, fun q => by omega⟩
/-- after a shelf was gathered and units were marked -/
theorem Inv_hs (hI : Inv gGd im) {Z : zM} (hZ : ∀ p : Nat, (p < 125 ∨ 130 < p) → p ≠ 181 → Z p = im p) : Inv gGd Z := by
  refine Inv_of gGd_ok hI (fun p hp => hZ p (by omega) (by omega)) ⟨by rw [hZ 171 (by omega) (by omega)], by rw [hZ 171 (by omega) (by omega)]⟩ (fun j _ _ => by rw [hZ 172 (by omega) (by omega)]) (fun p hp => hZ p (by omega) (by omega)) ⟨?_, ?_, ?_⟩
  · rw [hZ 163 (by omega) (by omega)]
    exact hI.2.2.1
  · rw [hZ 184 (by omega) (by omega)]
    exact hI.2.2.2.1
  · rw [hZ 176 (by omega) (by omega)]
    exact hI.2.2.2.2
theorem sp_gap : Sp2 99 (Inv gGd) 118 245 := by
  intro im hI a _ k _
  have hc := Inv_c hI
  have g := Inv_g hI
  have hF := Inv_F hI
  have hC := Inv_Cls hI
  have hbu : hsB (im (nowT (im 1 1) + 1)) a k → BuOK (im (nowT (im 1 1) + 1)) (im (nowT (im 1 1) + 2)) a k := fun q => by
    have h := iw_iff.mp ((hs_iff hc).mp q)
    exact buOK_now hc g (Inv_sp hI) h.1 (by omega)
  refine (c_gap (d := 94) (Inv_hh hI) rfl hF.1.2 (Cls_TG hC) (fun q => by have := hbu q; omega)).mpr ?_
  by_cases c1 : iwM (im 172) a k
  · rw [if_pos ((hs_iff hc).mpr c1)]
    obtain ⟨h1, h2⟩ := iw_iff.mp c1
    have e172 : hsM im (nowT (im 1 1)) a k 172 = im 172 := hsM_ne (by omega)
    have e181 : hsM im (nowT (im 1 1)) a k 181 = im 181 := hsM_ne (by omega)
    refine ⟨_, rfl, (c_gapM (d := 94) (by rw [e172]; exact g.1.1) (by rw [e172]; exact fun _ => ft_now g h1)).mpr ?_⟩
    rw [e172, e181, if_pos c1]
    refine ⟨?_, Inv_hs hI (fun p h3 h4 => ?_)⟩
    · rw [ga_now g h1 (by omega), (beg_now hc g (Inv_sp hI) h1 (show 0 ≤ k ∧ k < 2 by omega)).1]
      unfold hsZ
      rw [tot_now hc g hF (Cls_HsB hC) (by omega) (bus_rg h1)]
    · rw [setc_ne _ _ h4, hsM_ne h3]
  · rw [if_neg (fun q => c1 ((hs_iff hc).mp q))]
    refine ⟨_, rfl, (c_gapM (d := 94) g.1.1 (fun q => absurd q c1)).mpr ?_⟩
    rw [if_neg c1]
    exact ⟨rfl, hI⟩
/-- nothing offends in a good state -/
theorem off_now (hc : SimC c A) (g : gGd A) (hF : WkF A w n) (h6 : HsB c) (hsp : ∀ k : Int, 0 ≤ k → k < 2 → sp k = A (460 + k)) (ha : a = -1 ∨ onBr A a) (hk : 0 ≤ k ∧ k < 2) : offeS (gatS c w n a k z) (begf c a k) (begf c a k + lenf c sp a k) = 0 := by
  obtain ⟨h1, τ, h2, h3, h4⟩ := sh_idx (a := a) hc g hF h6 hk (y' := z) rfl
  obtain ⟨b1, b2⟩ := beg_now hc g hsp ha hk
  generalize gatS c w n a k z = Z at *
  have hbs : ∀ i : Int, 0 ≤ i → i < Z.2.2.2.2.2 → begf c a k ≤ Z.2.2.2.2.1 i ∧ Z.2.2.2.2.1 i + Z.2.2.2.1 i ≤ begf c a k + lenf c sp a k ∧ metS Z.2.2.2.2.1 Z.2.2.2.1 Z.2.2.2.2.2 (Z.2.2.2.2.1 i) (Z.2.2.2.1 i) i = -1 := fun i i0 i1 => by
    obtain ⟨⟨e1, e2, e3, e4⟩, t0, t1, ti, ta⟩ := h2 i i0 i1
    have hb := (bu_iff g.1.1 (de_rg ⟨t0, t1⟩) (bus_rg ha)).mpr ta
    have hin := g.2.2.2.2.2.1 (τ i) k t0 t1 hk.1 hk.2 ti
    rw [hb] at hin
    refine ⟨?_, ?_, ?_⟩
    · rw [b2, if_neg (by omega), e4]
      exact hin.2.1
    · rw [b2, if_neg (by omega), b1, e3, e4]
      exact hin.2.2.1
    · unfold metS
      refine ff_neg _ _ (fun j j0 j1 => decide_eq_false (fun q => ?_))
      obtain ⟨q1, q2, q3⟩ := q
      obtain ⟨⟨f1, f2, f3, f4⟩, s0, s1, si, sa⟩ := h2 j j0 (by omega)
      have hne : τ j ≠ τ i := fun r => by
        rcases (show i < j ∨ j < i by omega) with t | t
        · have := h4 i j i0 t (by omega)
          rw [r] at this
          omega
        · have := h4 j i j0 t i1
          rw [r] at this
          omega
      have := g.2.2.2.2.2.2 (τ j) (τ i) k s0 s1 t0 t1 hne hk.1 hk.2 si ti (by rw [sa, ta])
      rw [e3, e4, f4] at q2
      rw [e4, f3, f4] at q3
      omega
  unfold offeS
  have key : ∀ (m : Nat) (i s : Int), 0 ≤ i → i + m ≤ Z.2.2.2.2.2 → lp (ofsf Z.2.2.2.2.1 Z.2.2.2.1 Z.2.2.2.2.2 (begf c a k) (begf c a k + lenf c sp a k)) m i s = s := by
    intro m
    induction m with
    | zero => exact fun _ _ _ _ => rfl
    | succ m ih =>
      intro i s i0 i1
      simp only [lp]
      have e : ofsf Z.2.2.2.2.1 Z.2.2.2.1 Z.2.2.2.2.2 (begf c a k) (begf c a k + lenf c sp a k) i s = s := if_pos (hbs i i0 (by omega))
      rw [e]
      exact ih (i + 1) s (by omega) (by omega)
  exact key _ 0 0 (by omega) (by omega)
theorem lwS_0 {t : Nat} (hc : SimC (im (t + 1)) A) (g : gGd A) (ht : zT t) (hF : WkF A (im (t + 3)) (im t 4)) (h6 : HsB (im (t + 1))) (hsp : ∀ k : Int, 0 ≤ k → k < 2 → im (t + 2) k = A (460 + k)) (hk : 0 ≤ k ∧ k < 2) : (lwS im t k).1 = 0 ∧ Ag5 (lwS im t k).2 im := by
  have at' := zT_124 ht
  have hO : ∀ Y a, Ag5 Y im → (a = -1 ∨ onBr A a) → lwO Y t a k = 0 := fun Y a hY ha => by
    unfold lwO hsZ
    rw [hY (t + 1) (by omega), hY (t + 2) (by omega), hY (t + 3) (by omega), hY t (by omega)]
    exact off_now hc g hF h6 hsp ha hk
  have key : ∀ (m : Nat) (e : Int) (y : Int × zM), y.1 = 0 → Ag5 y.2 im → (lp (lwf t k) m e y).1 = 0 ∧ Ag5 (lp (lwf t k) m e y).2 im := by
    intro m
    induction m with
    | zero => exact fun e y h1 h2 => ⟨h1, h2⟩
    | succ m ih =>
      intro e y h1 h2
      simp only [lp]
      have e1 : y.2 (t + 1) = im (t + 1) := h2 _ (by omega)
      by_cases q : gt (im (t + 1)) e 0 = 2 ∧ gt (im (t + 1)) e 3 = 1
      · have ec : lwf t k e y = (y.1 + lwO y.2 t e k, hsM y.2 t e k) := if_pos (by rw [e1]; exact q)
        rw [ec]
        refine ih (e + 1) _ ?_ (Ag5_hs h2)
        dsimp only
        rw [h1, hO y.2 e h2 (Or.inr ((sc_onBr hc).mp q))]
        rfl
      · have ec : lwf t k e y = y := if_neg (by rw [e1]; exact q)
        rw [ec]
        exact ih (e + 1) y h1 h2
  unfold lwS
  exact key 20 0 _ (hO im (-1) (fun _ _ => rfl) (Or.inl rfl)) (Ag5_hs (fun _ _ => rfl))
theorem sp_law : Sp1 99 (Inv gGd) 129 263 := by
  intro im hI k _
  have hc := Inv_c hI
  have g := Inv_g hI
  have hF := Inv_F hI
  have hC := Inv_Cls hI
  have hs0 := g.1.2.2.2.1 0 (by omega) (by omega)
  have hs1 := g.1.2.2.2.1 1 (by omega) (by omega)
  have hsM : 0 ≤ im 172 460 ∧ im 172 460 ≤ 1024 ∧ 0 ≤ im 172 461 ∧ im 172 461 ≤ 1024 := ⟨hs0.1, hs0.2, hs1.1, hs1.2⟩
  refine (c_law (d := 93) (Inv_hh hI) rfl hF.1.2 (Cls_TG hC) (fun hk e he => buOK_now hc g (Inv_sp hI) (he.imp id (fun q => (sc_onBr hc).mp q)) hk)).mpr ?_
  by_cases c1 : 0 ≤ k ∧ k < 2
  · rw [if_pos c1]
    obtain ⟨h1, h2⟩ := lwS_0 hc g (nowT_z (Inv_hh hI).1) hF (Cls_HsB hC) (Inv_sp hI) c1
    have hS : Inv gGd (lwS im (nowT (im 1 1)) k).2 := Inv_hs hI (fun p h3 _ => h2 p h3)
    have hA : (lwS im (nowT (im 1 1)) k).2 172 = im 172 := h2 172 (by omega)
    rw [h1]
    refine ⟨_, rfl, (c_lawM (d := 93) (by rw [hA]; exact g.1.1) (by rw [hA]; exact hsM)).mpr ⟨?_, hS⟩⟩
    rw [hA, if_pos (show 0 ≤ k ∧ k ≤ 1 by omega)]
    have e0 : lp (cntf (lwB (im 172) k)) 80 0 0 ≤ 0 := (cnt_zero 80 0 0).mpr (fun t t0 t1 => by
      unfold lwB
      refine decide_eq_false (fun q => ?_)
      obtain ⟨hi, hw⟩ := q
      have hin := g.2.2.2.2.2.1 t k t0 (by omega) c1.1 c1.2 hi
      rcases hw with q | q | q | q
      · omega
      · omega
      · omega
      · obtain ⟨o0, o1, o2⟩ := (ff_cases (mtM (im 172) t k) 80 0).resolve_left q
        obtain ⟨q1, q2, q3, q4, q5⟩ := of_decide_eq_true o2
        have hd := de_rg ⟨t0, show t < 80 by omega⟩
        have hd' := de_rg ⟨o0, show ff (mtM (im 172) t k) 80 0 < 80 by omega⟩
        have hat : im 172 (23 * deM (ff (mtM (im 172) t k) 80 0) + 2) = im 172 (23 * deM t + 2) := by
          have m1 := MG_at g.1.1 hd
          have m2 := MG_at g.1.1 hd'
          unfold buM at q3
          split at q3 <;> split at q3 <;> omega
        have := g.2.2.2.2.2.2 _ t k o0 (by omega) t0 (by omega) q1 c1.1 c1.2 q2 hi hat
        omega)
    have := (cntN_bd (p := lwB (im 172) k) 80 0 0).1
    rw [show lp (cntf (lwB (im 172) k)) 80 0 0 = 0 by omega]
  · rw [if_neg c1]
    refine ⟨_, rfl, (c_lawM (d := 93) g.1.1 hsM).mpr ⟨?_, hI⟩⟩
    rw [if_neg (by omega)]
end BL
