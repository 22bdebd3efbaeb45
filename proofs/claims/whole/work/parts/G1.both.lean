/-! POWER-UP: class and reference, the whole -/
section GB0
variable {X Y : zM} {c c' cm cF cR A As B C Ao S D w sp : Int → Int} {e f a b k t x v n N d i q bu dv lv : Int} {on on' : Int → Bool} {r : zLy} {m : Nat} {z : zSS}
theorem goX_176 : goX Y 176 = Y 176 := by
  unfold goX
  rw [nbm_o (by omega) (by omega) (by omega)]
  unfold wkm
  rw [setc_ne _ _ (by omega), setc_ne _ _ (by omega), setc_ne _ _ (by omega)]
theorem pow_both (hT : GdT gGd X 120 A) (hY : Y 172 = A) (hD : DK (Y 176)) : RunOK X 120 ∧ GoP Y ∧ GdT gGd (mt3 X 120 (run2 X 120)) 120 (goA Y) ∧ (∀ e, 0 ≤ e → e < 20 → (gt (run2 X 120).1.1 e 3 = 1 ↔ (goS Y).2.1 e = true)) ∧ (∀ e, onM (goA Y) e ↔ (goS Y).2.1 e = true) ∧ StR A (goA Y) := by
  obtain ⟨hNB, hMU, hMG, hNu, hPw, hFo, hSt, hhi, h462⟩ := num_both hT hY
  obtain ⟨h1, g, hC⟩ := id hT
  have t1 : SimC (X 121) A := h1.1
  have t2 : ∀ k : Int, 0 ≤ k → k < 2 → X 122 k = A (460 + k) := h1.2.1
  have hC : Cls (X 121) := hC
  have hRr : ∀ e f : Int, 0 ≤ e → e < 20 → gt (runC X 120) e f = offv f (gt (X 121) e f) := fun e f e0 e1 => by
    have := off_all 20 0 (X 121) (Int.le_refl _) (by omega) e f
    unfold runC
    rw [this, if_pos (by omega)]
  have hRo : ∀ e f : Int, ¬ (0 ≤ e ∧ e < 20) → gt (runC X 120) e f = -1 := fun e f q => gt_out q
  have hnv : ∀ f v : Int, (f ≠ 3 ∧ f ≠ 7 ∧ f ≠ 8 ∧ (f < 15 ∨ 21 < f)) → offv f v = v := fun f v hf => by
    unfold offv
    (repeat' split) <;> first | rfl | omega
  have hsame : ∀ e f : Int, (f ≠ 3 ∧ f ≠ 7 ∧ f ≠ 8 ∧ (f < 15 ∨ 21 < f)) → gt (runC X 120) e f = gt (X 121) e f := fun e f hf => by
    by_cases q : 0 ≤ e ∧ e < 20
    · rw [hRr e f q.1 q.2, hnv f _ hf]
    · rw [hRo e f q, gt_out q]
  have hT0 : TB (runC X 120) := fun e => by
    have := Cls_TB hC e
    refine ⟨by rw [hsame e 6 (by omega)]; exact this.1, fun x x0 x1 => ?_⟩
    rw [hsame e (12 + x) (by omega)]
    exact this.2 x x0 x1
  have h50 : ∀ e, 0 ≤ gt (runC X 120) e 5 + 1 ∧ gt (runC X 120) e 5 ≤ 1048576 := fun e => by
    rw [hsame e 5 (by omega)]
    by_cases q : 0 ≤ e ∧ e < 20
    · have := (hC e q.1 q.2).2.2.1
      omega
    · rw [gt_out q]
      omega
  have hR : ∀ e f : Int, 0 ≤ e → e < 20 → 15 ≤ f → f < 20 → gt (runC X 120) e f = -1 := fun e f e0 e1 f0 f1 => by
    rw [hRr e f e0 e1]
    unfold offv
    rw [if_neg (by omega), if_pos (by omega)]
  have hX0 : CeX (nbS (X 123) (X 120 4) 5 (-1) 1 (runC X 120)).2 := fun e e0 e1 => by
    have hK := nbS_K (w := X 123) (n := X 120 4) 5 (-1) 1 (runC X 120)
    have hTn := nbS_T (w := X 123) (n := X 120 4) 5 (-1) 1 (runC X 120) e
    refine ⟨?_, fun _ k k0 k1 => ?_⟩
    · rcases hTn with q | q
      · exact Or.inr q
      · left
        rw [q, hRr e 3 e0 e1]
        rfl
    · rw [hK e (20 + k) (by omega) (by omega) (by omega), hRr e _ e0 e1]
      unfold offv
      rw [if_neg (by omega), if_neg (by omega), if_pos (by omega)]
  obtain ⟨n1, n2, n3, n4⟩ := rf_N (r := lyg (goX Y)) (on := goN Y) hPw.1 hPw.2.2.2.1
  have hL0 : LpI (runC X 120) (goX Y 172) (X 123) (X 120 4) (run0 X 120) (goX Y 172, goN Y, lnN (goX Y 172) (goN Y) (lyg (goX Y))) := by
    refine ⟨hPw, n3, ⟨h462.symm, fun i i0 i1 => by dsimp only at i1; omega⟩, n4 ?_, fun _ _ => rfl⟩
    show DK (goX Y 176)
    rw [goX_176]
    exact hD
  have hcn := cntN_bd (p := goN Y) 20 0 0
  obtain ⟨l1, l2, l3, l4⟩ := lp_pow (sp := X 122) (o := (goO Y).1) (N := (goO Y).2) hR hT0 h50 hFo (fun k k0 k1 => by rw [t2 k k0 k1, hhi _ (by omega) (by omega)]) 20 (run0 X 120) _ hL0 (by dsimp only; omega) (by dsimp only; omega)
  have eS : goS Y = pwS (goO Y).1 (goO Y).2 20 (goX Y 172, goN Y, lnN (goX Y 172) (goN Y) (lyg (goX Y))) := rfl
  have e1 : run1 X 120 = rfl' (X 123) (X 122) (X 120 4) 20 (run0 X 120) := rfl
  rw [← eS, ← e1] at l3 l4
  have hX1 : CeX (run1 X 120).1.1 := by
    rw [e1]
    exact ce_rfl 20 (run0 X 120) hX0
  have eA : goA Y = ldL (goS Y).2.2.2.2.1 (goS Y).2.2.2.2.2.1 5 0 (lp (onF (goS Y).2.1) 20 0 (goS Y).1) := rfl
  have e2 : (run2 X 120).1 = lyk (X 123) (X 120 4) 1 (lyk (X 123) (X 120 4) 0 (run1 X 120).1) := rfl
  have e22 : (run2 X 120).2 = (run1 X 120).2 := rfl
  have eG : GoP Y = (MU (puA (Y 172)) ∧ MG (puA (Y 172)) ∧ NuP (goO Y).1 (goO Y).2.toNat 0 ((puA (Y 172), Y 180, 0, 1), fun _ => false) ∧ NdP (goX Y 172) (goN Y) (lyg (goX Y)) ∧ PwP (goO Y).1 (goO Y).2 20 (goX Y 172, goN Y, lnN (goX Y 172) (goN Y) (lyg (goX Y))) ∧ DK (goS Y).2.2.2.2.1 ∧ LwL (goS Y).2.2.2.2.1 (goS Y).2.2.2.2.2.1 5 0 (lp (onF (goS Y).2.1) 20 0 (goS Y).1)) := rfl
  have eR : RunOK X 120 = (NB (runC X 120) ∧ RfOK (X 123) (X 122) (X 120 4) 20 (run0 X 120) ∧ LkOK (X 123) (X 120 4) 0 (run1 X 120).1 ∧ LkOK (X 123) (X 120 4) 1 (lyk (X 123) (X 120 4) 0 (run1 X 120).1)) := rfl
  rw [eG, eR, hY]
  obtain ⟨q1, q2, q3, q4, q5⟩ := l3
  have hAs : StR A (goS Y).1 := StR_trans hSt (fun e f e0 e1 hf => by
    have := hf.2.1
    exact q5 _ (by omega))
  have hsA : ∀ k : Int, 0 ≤ k → k < 2 → (goS Y).1 (460 + k) = A (460 + k) := fun k k0 k1 => by rw [q5 _ (by omega), hhi _ (by omega) (by omega)]
  generalize goS Y = G at *
  obtain ⟨As, on, r⟩ := G
  dsimp only at q1 q2 q3 q4 q5 l4 eA hAs hsA ⊢
  have hTm := pw_TB q1 hT0
  have hLd : LdG As (lp (onF on) 20 0 As) on r := ⟨q1.1, q1.2.2.2.1, q1.2.2.2.2.2.2.2.2.1, fun k k0 k1 => ⟨q2 k k0 k1, by rw [q5 _ (by omega)]; exact (l4 k k0 k1).2⟩, q1.2.2.2.2.2.2.2.2.2.2, rfl⟩
  obtain ⟨y1, y2, y3, y4, y5⟩ := ly_both (z := (run1 X 120).1.2) q1 hTm (fun k k0 k1 => (l4 k k0 k1).1) q2 (fun k k0 k1 => LdG_sp hLd ⟨k0, k1⟩)
  have y1 : LkOK (X 123) (X 120 4) 0 (run1 X 120).1 := y1
  have y2 : LkOK (X 123) (X 120 4) 1 (lyk (X 123) (X 120 4) 0 (run1 X 120).1) := y2
  have y3 : LyC (run2 X 120).1.1 (run1 X 120).1.1 := y3
  have y4 : ∀ k : Int, 0 ≤ k → k < 2 → ∀ a t, itP As on (teS k r) k a t → gt (run2 X 120).1.1 (deM t) (fldP k t) = liP As (teD k r) t := y4
  have y5 : ∀ e f : Int, (∀ k : Int, 0 ≤ k → k < 2 → ∀ a t, itP As on (teS k r) k a t → ¬ (e = deM t ∧ f = fldP k t)) → gt (run2 X 120).1.1 e f = gt (run1 X 120).1.1 e f := y5
  obtain ⟨d1, d2⟩ := ld_end hLd
  rw [← eA] at d2
  obtain ⟨s1, s2, s3⟩ := fin_sim hLd d2 t1 hC g.1.1 hAs hRr q1 hX1 (fun k k0 k1 => (ly_bus q1 ⟨k0, k1⟩ (l4 k k0 k1).1 (q2 k k0 k1) (fun _ _ _ => rfl)).1) y3 y4 y5
  have hAB : StR A (goA Y) := StR_trans hAs (LdI_StR hLd d2)
  have hgB := fin_good hLd d2
  have hjB : ∀ j : Int, 460 ≤ j → goA Y j = As j := fun j hj => ao_hi hLd d2 hj
  obtain ⟨w1, w2⟩ := wk_Sh4 (StR_4 hAB) (gT_S g.1)
  have hwn := h1.2.2.2.2.1
  have hwi := h1.2.2.2.2.2
  refine ⟨⟨hNB, l1, y1, y2⟩, ⟨hMU, hMG, hNu, rf_P hPw.1 hPw.2.2.2.1, l2, q4, d1⟩, ⟨⟨?_, fun k k0 k1 => ?_, ?_, fun i i0 i1 => ?_, ?_, fun i i0 i1 => ?_⟩, hgB, ?_⟩, s3, fun e => LdI_on hLd d2, hAB⟩
  · rw [mt3_c zT_120]
    exact s1
  · rw [mt3_s zT_120, hjB _ (by omega), hsA k k0 k1]
    exact t2 k k0 k1
  · rw [mt3_t zT_120, ups_at, e22, hjB _ (by omega)]
    exact q3.1
  · rw [hjB 462 (by omega)] at i1
    rw [mt3_4 zT_120, e22, hjB _ (by omega)]
    exact q3.2 i i0 i1
  · rw [mt3_n zT_120, w1]
    exact hwn
  · rw [w1] at i1
    rw [mt3_w zT_120, w2 i i0 i1]
    exact hwi i i0 i1
  · rw [mt3_c zT_120]
    exact s2
theorem pow_cnt (hT : GdT gGd X 120 A) (hY : Y 172 = A) (hD : DK (Y 176)) : lp (cntf (onB (run2 X 120).1.1)) 20 0 0 = lp (cntf (goS Y).2.1) 20 0 0 ∧ lp (cntf (onB (run2 X 120).1.1)) 20 0 0 = gpC Y := by
  obtain ⟨-, -, -, h4, -⟩ := pow_both hT hY hD
  have e : lp (cntf (onB (run2 X 120).1.1)) 20 0 0 = lp (cntf (goS Y).2.1) 20 0 0 := cnt_congr 20 0 0 (fun j j0 j1 => by
    have := h4 j j0 (by omega)
    unfold onB
    by_cases q : gt (run2 X 120).1.1 j 3 = 1
    · rw [decide_eq_true q, this.mp q]
    · rw [decide_eq_false q]
      exact (Bool.eq_false_iff.mpr (fun s => q (this.mpr s))).symm)
  exact ⟨e, e⟩
end GB0
