/-! THE STEPS powerUp and would -/
section GC0
variable {im X Y Z T : zM} {c c' cF A B : Int → Int} {e f a b k t x v n d i : Int} {m : Nat}
theorem mt3_ne {S : zPS} {p : Nat} (h : p < 120 ∨ 170 < p) : mt3 (trl im) 120 S p = im p := by
  unfold mt3
  rw [mt2_ne zT_120 _ _ (by omega) (by omega), str_ne _ _ (by omega) (by omega), trl_ne (by omega)]
theorem mt3_163 {S : zPS} : mt3 (trl im) 120 S 163 = im 163 := by
  unfold mt3
  rw [mt2_ne zT_120 _ _ (by omega) (by omega), str_ne _ _ (by omega) (by omega), trl_ne (by omega)]
/-- what only scratch of power-up differs from -/
theorem pow_scr (hK : Inv gGd (setc Y 172 (goA Y))) (hG : GoP Y) : Inv gGd (pwm (goX Y) (goA Y) (goS Y).2.2) := by
  have h171 : ∀ f : Int, f ≠ 2 → f ≠ 9 → f ≠ 11 → f ≠ 12 → pwm (goX Y) (goA Y) (goS Y).2.2 171 f = Y 171 f := fun f f2 f9 f11 f12 => by
    rw [pwm_f f9]
    unfold goX
    rw [nbm_f f11 f12]
    unfold wkm
    rw [setc_at, ups_ne _ _ f2, setc_ne _ _ (by omega)]
  refine Inv_of gGd_ok hK (fun p hp => ?_) ⟨?_, ?_⟩ (fun j _ _ => ?_) (fun p hp => ?_) ⟨?_, ?_, ?_⟩
  · rw [pwm_o (by omega), goX_o (by omega), setc_ne _ _ (by omega)]
  · rw [h171 _ (by omega) (by omega) (by omega) (by omega), setc_ne _ _ (by omega)]
  · rw [h171 _ (by omega) (by omega) (by omega) (by omega), setc_ne _ _ (by omega)]
  · rw [pwm_A, setc_at]
  · rw [pwm_o (by omega), goX_o (by omega), setc_ne _ _ (by omega)]
  · rw [pwm_o (by omega), goX_o (by omega)]
    have := hK.2.2.1
    rw [setc_ne _ _ (by omega)] at this
    exact this
  · rw [pwm_o (by omega), goX_o (by omega)]
    have := hK.2.2.2.1
    rw [setc_ne _ _ (by omega)] at this
    exact this
  · have e : pwm (goX Y) (goA Y) (goS Y).2.2 176 = (goS Y).2.2.2.2.1 := lym_D
    rw [e]
    exact hG.2.2.2.2.2.1
theorem sp_power : Sp0 99 (Inv gGd) 92 189 := by
  intro im hI
  have hh := Inv_hh hI
  have hT := trl_GdT hI
  have g := hT.2.1
  have hF : WkF (im 172) (trl im 123) (trl im 120 4) := TrI_F (gT_S g.1) hT.1
  have hX : ∀ S : zPS, ∀ p : Nat, p < 120 ∨ 170 < p → mt3 (trl im) 120 S p = im p := fun S p hp => mt3_ne hp
  -- the reference's memory after keeping
  have hk : ∀ S : zPS, kaM (kp (mt3 (trl im) 120 S)) 172 = im 172 ∧ kaM (kp (mt3 (trl im) 120 S)) 176 = im 176 := fun S => by
    refine ⟨?_, ?_⟩
    · rw [kaM_ne (by omega) (by omega)]
      exact kp172 hI (hX S)
    · rw [kaM_ne (by omega) (by omega), kp_far hI (hX S 1 (by omega)) (by omega), hX S 176 (by omega)]
  have hD : ∀ S : zPS, DK (kaM (kp (mt3 (trl im) 120 S)) 176) := fun S => by
    rw [(hk S).2]
    exact hI.2.2.2.2
  obtain ⟨r1, r2, r3, r4, r5, r6⟩ := pow_both hT (hk (run2 (trl im) 120)).1 (hD _)
  obtain ⟨-, cn⟩ := pow_cnt hT (hk (run2 (trl im) 120)).1 (hD _)
  refine (c_powerUp (d := 90) hh hF.1 r1).mpr ?_
  have hK := act_keep hI (hX (run2 (trl im) 120)) (by rw [mt3_163]; exact hI.2.2.1) r3
  refine ⟨_, rfl, (c_powerUpM (d := 93) (kpHM hI (hX (run2 (trl im) 120))) r2).mpr ⟨?_, pow_scr hK r2⟩⟩
  rw [cn]
  rfl
theorem AgE_Inv (hI : Inv gGd im) (h : AgE Y im) : Inv gGd Y := by
  obtain ⟨h1, h2, h3, h4, h5⟩ := h
  refine Inv_of gGd_ok hI (fun p hp => h1 p (by omega)) h2 (fun j j0 j1 => (h3 j j0 j1).symm) (fun p hp => h1 p (by omega)) ⟨?_, ?_, ?_⟩
  · rw [h1 163 (by omega)]
    exact hI.2.2.1
  · rw [h4]
    exact hI.2.2.2.1
  · exact h5 hI.2.2.2.2
theorem psM_172 : psM Y 172 = Y 172 ∧ psM Y 176 = Y 176 := by
  unfold psM
  exact ⟨setc_ne _ _ (by omega), setc_ne _ _ (by omega)⟩
/-- apertures that come to another place -/
theorem rb_eq (hc : SimC c A) (hc' : SimC c' B) (hA : MG A) (hst : StR A B) (he : 0 ≤ e ∧ e < 20) {S : Int → Int} (hS : ∀ j : Int, 0 ≤ j → j < 483 → S j = A j) (ho : ∀ e, onM B e → thM A e) (s : Int) : rbf c c' e s = (wmF S B e (s, d)).1 := by
  have hth : thM B e ↔ thM A e := Sh4_th (StR_4 hst)
  have h4 : S (23 * e + 4) = A (23 * e + 4) := hS _ (by omega) (by omega)
  have m4 := (hA e he.1 he.2).2.2.2.1
  have h5 := MG_many hA he
  have s5 : B (23 * e + 5) = A (23 * e + 5) := hst e 5 he.1 he.2 (by unfold StF; omega)
  have s1 : B (23 * e + 1) = A (23 * e + 1) := hst e 1 he.1 he.2 (by unfold StF; omega)
  unfold rbf wmF
  by_cases c1 : S (23 * e + 4) ≠ 0 ∧ thM B e
  · have ht := hth.mp c1.2
    have hoA : onM A e := ⟨ht, by omega⟩
    rw [if_pos c1]
    by_cases c2 : onM B e
    · rw [if_pos c2]
      obtain ⟨d1, d2, d3, d4, d5, d6, d7, d8, d9⟩ := sc_d hc ht
      obtain ⟨b1, b2, b3, b4, b5, b6, b7, b8, b9⟩ := sc_d hc' c1.2
      by_cases c3 : A (23 * e + 1) = 0
      · rw [if_pos ⟨by omega, (sc_on hc).mpr hoA, (sc_on hc').mpr c2⟩, d5]
        dsimp only
        rw [s5]
        refine lp_congr _ 0 s (fun x x0 x1 s' => ?_)
        unfold rbI wmI
        rw [(d8 x x0 (by omega)).2.2, (b8 x x0 (by omega)).2.2, hS _ (by omega) (by omega), show 23 * e + 12 + x = 23 * e + (12 + x) by omega]
      · have m1 := (hA e he.1 he.2).1
        have hb := (d9 (by omega)).1
        rw [if_neg (by omega)]
        dsimp only
        rw [s5, hb]
        rfl
    · rw [if_neg c2, if_neg (fun q => c2 ((sc_on hc').mp q.2.2))]
  · rw [if_neg c1, if_neg (fun q => c1 ?_)]
    have hoA := (sc_on hc).mp q.2.1
    exact ⟨by have := hoA.2; omega, hth.mpr hoA.1⟩
theorem tn_eq (hc : SimC c A) (hc' : SimC c' B) (hA : MG A) (hst : StR A B) (he : 0 ≤ e ∧ e < 20) {S : Int → Int} (hS : ∀ j : Int, 0 ≤ j → j < 483 → S j = A j) (u s : Int) : cntf (tnB c c') e s = (wmF S B e (u, s)).2 := by
  have hth : thM B e ↔ thM A e := Sh4_th (StR_4 hst)
  have h4 : S (23 * e + 4) = A (23 * e + 4) := hS _ (by omega) (by omega)
  have m4 := (hA e he.1 he.2).2.2.2.1
  unfold cntf tnB wmF
  by_cases c1 : S (23 * e + 4) ≠ 0 ∧ thM B e
  · have ht := hth.mp c1.2
    have hoA : onM A e := ⟨ht, by omega⟩
    rw [if_pos c1]
    by_cases c2 : onM B e
    · rw [if_pos c2, decide_eq_false (fun q => q.2 ((sc_on hc').mpr c2)), if_neg (by decide)]
    · rw [if_neg c2, decide_eq_true ⟨(sc_on hc).mpr hoA, fun q => c2 ((sc_on hc').mp q)⟩, if_pos rfl]
  · rw [if_neg c1, if_neg (fun q => c1 ?_)]
    have q := of_decide_eq_true q
    have hoA := (sc_on hc).mp q.1
    exact ⟨by have := hoA.2; omega, hth.mpr hoA.1⟩
theorem wm_both (hc : SimC c A) (hc' : SimC c' B) (hA : MG A) (hst : StR A B) {S : Int → Int} (hS : ∀ j : Int, 0 ≤ j → j < 483 → S j = A j) (ho : ∀ e, onM B e → thM A e) : ∀ (m : Nat) (e : Int) (y : Int × Int), 0 ≤ e → e + m ≤ 20 → (lp (wmF S B) m e y).1 = lp (rbf c c') m e y.1 ∧ (lp (wmF S B) m e y).2 = lp (cntf (tnB c c')) m e y.2
  | 0, _, _, _, _ => ⟨rfl, rfl⟩
  | m + 1, e, y, h0, h1 => by
    simp only [lp]
    obtain ⟨i1, i2⟩ := wm_both hc hc' hA hst hS ho m (e + 1) (wmF S B e y) (by omega) (by omega)
    have e1 := rb_eq (d := y.2) hc hc' hA hst ⟨h0, by omega⟩ hS ho y.1
    have e2 := tn_eq hc hc' hA hst ⟨h0, by omega⟩ hS y.1 y.2
    rw [i1, i2, e1, e2]
    exact ⟨rfl, rfl⟩
theorem sp_would : Sp1 99 (Inv gGd) 109 257 := by
  intro im hI v _
  have hh := Inv_hh hI
  have hT := trl_GdT hI
  have g := hT.2.1
  have hC := Inv_c hI
  have hF := Inv_F hI
  have hX : ∀ S : zPS, ∀ p : Nat, p < 120 ∨ 170 < p → mt3 (trl im) 120 S p = im p := fun S p hp => mt3_ne hp
  have hps : ∀ S : zPS, psM (mt3 (trl im) 120 S) 172 = im 172 ∧ psM (mt3 (trl im) 120 S) 176 = im 176 := fun S => by
    rw [psM_172.1, psM_172.2, hX S _ (by omega), hX S _ (by omega)]
    exact ⟨rfl, rfl⟩
  have hD : ∀ S : zPS, DK (psM (mt3 (trl im) 120 S) 176) := fun S => by
    rw [(hps S).2]
    exact hI.2.2.2.2
  obtain ⟨r1, r2, r3, r4, r5, r6⟩ := pow_both hT (hps (run2 (trl im) 120)).1 (hD _)
  obtain ⟨-, cn⟩ := pow_cnt hT (hps (run2 (trl im) 120)).1 (hD _)
  refine (c_would (d := 90) hh rfl hF.1 (Cls_TB (Inv_Cls hI)) r1).mpr ?_
  have hS : Inv gGd (mt3 (trl im) 120 (run2 (trl im) 120)) := act_stay hI (hX _) (by rw [mt3_163]; exact hI.2.2.1)
  have e172 := hX (run2 (trl im) 120) 172 (by omega)
  have e5 : (run2 (trl im) 120).2.2 = goA (psM (mt3 (trl im) 120 (run2 (trl im) 120))) 462 := by
    have := r3.1.2.2.1
    rw [mt3_t zT_120, ups_at] at this
    exact this
  have hSB : SimC (run2 (trl im) 120).1.1 (goA (psM (mt3 (trl im) 120 (run2 (trl im) 120)))) := by
    have := r3.1.1
    rw [mt3_c zT_120] at this
    exact this
  have hMB := r3.2.1.1.1
  refine ⟨_, rfl, CallP_mono (c_wouldM (d := 93) (w := v) (fun _ => r2) (fun _ => hMB)) ?_⟩
  intro r Z hz
  obtain ⟨z1, z2⟩ := hz
  refine ⟨?_, AgE_Inv hS z2⟩
  rw [z1]
  have hSe : ∀ j : Int, 0 ≤ j → j < 483 → cpM2 (mt3 (trl im) 120 (run2 (trl im) 120) 188) (mt3 (trl im) 120 (run2 (trl im) 120) 172) 0 j = im 172 j := fun j j0 j1 => by
    unfold cpM2
    rw [if_pos ⟨j0, j1⟩, e172]
  obtain ⟨w1, w2⟩ := wm_both hC hSB g.1.1 r6 hSe (fun e he => (Sh4_th (StR_4 r6)).mp he.1) 20 0 (0, 0) (Int.le_refl _) (by omega)
  have w1 : (wdR (mt3 (trl im) 120 (run2 (trl im) 120))).1 = lp (rbf (im (nowT (im 1 1) + 1)) (run2 (trl im) 120).1.1) 20 0 0 := w1
  have w2 : (wdR (mt3 (trl im) 120 (run2 (trl im) 120))).2 = lp (cntf (tnB (im (nowT (im 1 1) + 1)) (run2 (trl im) 120).1.1)) 20 0 0 := w2
  rw [cn, w1, w2, ← e5]
  by_cases c1 : 0 ≤ v ∧ v ≤ 3
  · rw [if_pos c1]
    rcases (show v = 0 ∨ v = 1 ∨ v = 2 ∨ v = 3 by omega) with rfl | rfl | rfl | rfl
    · rfl
    · rfl
    · rfl
    · rfl
  · rw [if_neg c1, if_neg (by omega), if_neg (by omega), if_neg (by omega), if_neg (by omega)]
end GC0
