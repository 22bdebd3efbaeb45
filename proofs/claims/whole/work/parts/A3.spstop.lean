/-! THE STEP stop -/
section BD
variable {im X Y : zM} {c c' A B : Int → Int} {e f a b x d sl wh nu un ty k kd dv m : Int} {p q : Int → Bool}
/-- numbers after a set went off -/
def OffR (p : Int → Bool) (A B : Int → Int) : Prop := (∀ e f : Int, 0 ≤ e → e < 20 → 0 ≤ f → f < 23 → B (23 * e + f) = if offB p A e = true then ofv f (A (23 * e + f)) else A (23 * e + f)) ∧ ∀ j : Int, 460 ≤ j → B j = A j
theorem offB_iff : offB p A e = true ↔ p e = true ∧ onM A e := by
  unfold offB
  rw [Bool.and_eq_true]
  exact ⟨fun r => ⟨r.1, of_decide_eq_true r.2⟩, fun r => ⟨r.1, decide_eq_true r.2⟩⟩
theorem off_same (h : OffR p A B) (e0 : 0 ≤ e) (e1 : e < 20) (f0 : 0 ≤ f) (f1 : f < 23) (hf : f ≠ 4 ∧ (f < 12 ∨ f = 15 ∨ f = 16)) : B (23 * e + f) = A (23 * e + f) := by
  rw [h.1 e f e0 e1 f0 f1]
  unfold ofv
  (repeat' split) <;> first | rfl | omega
theorem off_Sh4 (h : OffR p A B) : Sh4 A B := fun e f e0 e1 f0 f1 => off_same h e0 e1 f0 (by omega) (by omega)
theorem off_rw (h : OffR p A B) (e0 : 0 ≤ e) (e1 : e < 20) (hn : ¬ offB p A e = true) : Rw A B e := fun f f0 f1 => by rw [h.1 e f e0 e1 f0 f1, if_neg hn]
theorem off_on (h : OffR p A B) : onM B e ↔ onM A e ∧ p e = false := by
  have h4 := off_Sh4 h
  constructor
  · intro q
    have ht := (Sh4_th h4).mp q.1
    have hr := th_rg ht
    have h5 := q.2
    rw [h.1 e 4 hr.1 hr.2 (by omega) (by omega)] at h5
    by_cases r : offB p A e = true
    · rw [if_pos r] at h5
      exact absurd (show (0 : Int) = 1 from h5) (by decide)
    · rw [if_neg r] at h5
      refine ⟨⟨ht, h5⟩, Bool.eq_false_iff.mpr (fun s => r (offB_iff.mpr ⟨s, ht, h5⟩))⟩
  · rintro ⟨q, q2⟩
    have hr := th_rg q.1
    refine ⟨(Sh4_th h4).mpr q.1, ?_⟩
    rw [h.1 e 4 hr.1 hr.2 (by omega) (by omega), if_neg (fun r => by
      rw [(offB_iff.mp r).1] at q2
      exact absurd q2 (by decide))]
    exact q.2
theorem off_good (hg : gGd A) (h : OffR p A B) (hcl : ∀ e, onM A e → onM A (A (23 * e + 2)) → p (A (23 * e + 2)) = true → p e = true) : gGd B := by
  obtain ⟨⟨g1, g2, g3, g4, g5, g6, g7, g8, g9⟩, gO'⟩ := id hg
  have h4 := off_Sh4 h
  have hM : MG B := MG_frame g1 (fun e e0 e1 => by
    by_cases r : offB p A e = true
    · right
      obtain ⟨m1, m2, m3, m4, m5, m6, m7, m8, m9, m10, m11⟩ := g1 e e0 e1
      have hv : ∀ f : Int, 0 ≤ f → f < 23 → B (23 * e + f) = ofv f (A (23 * e + f)) := fun f f0 f1 => by rw [h.1 e f e0 e1 f0 f1, if_pos r]
      unfold MGr
      rw [hv 1 (by omega) (by omega), hv 2 (by omega) (by omega), hv 3 (by omega) (by omega), hv 4 (by omega) (by omega), hv 5 (by omega) (by omega), hv 15 (by omega) (by omega), hv 16 (by omega) (by omega), hv 17 (by omega) (by omega), hv 18 (by omega) (by omega)]
      refine ⟨m1, m2, m3, ⟨show (0 : Int) ≤ 0 by omega, show (0 : Int) ≤ 1 by omega⟩, m5, fun a a0 a1 => ?_, m7, m8, ⟨show (-1 : Int) ≤ -1 by omega, show (-1 : Int) ≤ 31 by omega⟩, ⟨show (-1 : Int) ≤ -1 by omega, show (-1 : Int) ≤ 31 by omega⟩, fun k k0 k1 => ?_⟩
      · have := m6 a a0 a1
        rw [hv _ (by omega) (by omega), hv _ (by omega) (by omega), hv _ (by omega) (by omega)]
        unfold ofv
        refine ⟨?_, ?_, ?_⟩ <;> (repeat' split) <;> omega
      · have := m11 k k0 k1
        rw [hv _ (by omega) (by omega), hv _ (by omega) (by omega)]
        unfold ofv
        refine ⟨?_, ?_⟩ <;> (repeat' split) <;> omega
    · exact Or.inl (off_rw h e0 e1 r))
  have hon : ∀ e, onM B e → onM A e ∧ Rw A B e := fun e q => by
    obtain ⟨q1, q2⟩ := (off_on h).mp q
    exact ⟨q1, off_rw h (th_rg q1.1).1 (th_rg q1.1).2 (fun r => by
      rw [(offB_iff.mp r).1] at q2
      exact absurd q2 (by decide))⟩
  refine ⟨gT_of h4 hg.1 hM (by rw [h.2 _ (by omega)]; exact g3) (fun k k0 k1 => by rw [h.2 _ (by omega)]; exact g4 k k0 k1) (fun e q => ?_) (fun e a q a0 a1 => ?_) (fun e k q k0 k1 => ?_), gO_less gO' g1 hM (fun k k0 k1 => h.2 _ (by omega)) hon (fun e q => ?_) (fun e q q' => ?_)⟩
  · have hq := (Sh4_br h4).mp q
    rw [off_same h hq.1.1 (th_rg hq.1).2 (by omega) (by omega) (by omega)]
    exact g7 e hq
  · have hq := (Sh4_th h4).mp q
    have hr := th_rg hq
    have := (g1 e hr.1 hr.2).2.2.2.2.1
    rw [off_same h hr.1 hr.2 (by omega) (by omega) (by omega)] at a1
    rw [off_same h hr.1 hr.2 (by omega) (by omega) (by omega)]
    exact g8 e a hq a0 a1
  · have hq := (Sh4_ep h4).mp q
    have hr := th_rg hq.1
    rw [h.1 e (21 + k) hr.1 hr.2 (by omega) (by omega), g9 e k hq k0 k1]
    unfold ofv
    (repeat' split) <;> omega
  · obtain ⟨q1, q2⟩ := (off_on h).mp q
    rw [h4 e 2 q1.1.1 (th_rg q1.1).2 (by omega) (by omega)]
    refine (gO'.1 e q1).imp id (fun r => (off_on h).mpr ⟨r, Bool.eq_false_iff.mpr (fun s => ?_)⟩)
    rw [hcl e q1 r s] at q2
    exact absurd q2 (by decide)
  · have hq := (Sh4_th h4).mp q
    have hr := th_rg hq
    by_cases r : offB p A e = true
    · have hv : ∀ f : Int, 0 ≤ f → f < 23 → B (23 * e + f) = ofv f (A (23 * e + f)) := fun f f0 f1 => by rw [h.1 e f hr.1 hr.2 f0 f1, if_pos r]
      refine ⟨by rw [hv 17 (by omega) (by omega)]; rfl, by rw [hv 18 (by omega) (by omega)]; rfl, fun a a0 a1 => ?_, fun k k0 k1 => ?_⟩
      · rw [hv _ (by omega) (by omega)]
        unfold ofv
        (repeat' split) <;> omega
      · rw [hv _ (by omega) (by omega), hv _ (by omega) (by omega)]
        unfold ofv
        refine ⟨?_, ?_⟩ <;> (repeat' split) <;> omega
    · have hw := off_rw h hr.1 hr.2 r
      have hn : ¬ onM A e := fun s => by
        have hpf : p e = false := Bool.eq_false_iff.mpr (fun t => r (offB_iff.mpr ⟨t, s⟩))
        exact q' ((off_on h).mpr ⟨s, hpf⟩)
      obtain ⟨o1, o2, o3, o4⟩ := gO'.2.1 e hq hn
      refine ⟨?_, ?_, fun a a0 a1 => ?_, fun k k0 k1 => ⟨?_, ?_⟩⟩
      · rw [hw _ (by omega) (by omega)]; exact o1
      · rw [hw _ (by omega) (by omega)]; exact o2
      · rw [hw _ (by omega) (by omega)]; exact o3 a a0 a1
      · rw [hw _ (by omega) (by omega)]; exact (o4 k k0 k1).1
      · rw [hw _ (by omega) (by omega)]; exact (o4 k k0 k1).2
/-- class and reference after a set went off -/
theorem off_GdT {T : zM} (h : GdT gGd T 120 A) (hR : OffR p A B) (hcl : ∀ e, onM A e → onM A (A (23 * e + 2)) → p (A (23 * e + 2)) = true → p e = true) (hc : ∀ e f : Int, 0 ≤ e → e < 20 → gt c' e f = if offB p A e = true then offv f (gt (T 121) e f) else gt (T 121) e f) : GdT gGd (setc T 121 c') 120 B := by
  obtain ⟨⟨t1, t2, t3, t4, t5, t6⟩, hg, hC⟩ := h
  have t1 : SimC (T 121) A := t1
  have hC : Cls (T 121) := hC
  obtain ⟨w1, w2⟩ := wk_Sh4 (off_Sh4 hR) (gT_S hg.1)
  refine ⟨⟨?_, ?_, ?_, ?_, ?_, ?_⟩, off_good hg hR hcl, ?_⟩
  · rw [setc_at]
    refine SimC_frame t1 hg.1.1 (fun e e0 e1 => ?_)
    by_cases r : offB p A e = true
    · right
      obtain ⟨hp, ho⟩ := offB_iff.mp r
      obtain ⟨q1, q2, q3, q4⟩ := t1 e e0 e1
      obtain ⟨d1, d2, d3, d4, d5, d6, d7, d8, d9⟩ := q3 ho.1.2.2
      have h6 := (hg.1.1 e e0 e1).2.2.2.2.1
      have hcv : ∀ f : Int, gt c' e f = offv f (gt (T 121) e f) := fun f => by rw [hc e f e0 e1, if_pos r]
      have hv : ∀ f : Int, 0 ≤ f → f < 23 → B (23 * e + f) = ofv f (A (23 * e + f)) := fun f f0 f1 => by rw [hR.1 e f e0 e1 f0 f1, if_pos r]
      unfold SmR SimD
      simp only [hcv]
      rw [hv 0 (by omega) (by omega), hv 1 (by omega) (by omega), hv 2 (by omega) (by omega), hv 3 (by omega) (by omega), hv 4 (by omega) (by omega), hv 5 (by omega) (by omega), hv 15 (by omega) (by omega), hv 16 (by omega) (by omega)]
      refine ⟨q1, Or.inl rfl, fun _ => ⟨d1, d2, d3, rfl, d5, d6, d7, fun a a0 a1 => ?_, fun hb => ⟨(d9 hb).1, fun r => absurd (show (0 : Int) = 1 from r) (by decide)⟩⟩, fun s => absurd ho.1.2.2 s⟩
      have a1' : a < A (23 * e + 5) := a1
      have := d8 a a0 a1'
      rw [hv _ (by omega) (by omega), hv _ (by omega) (by omega), hv _ (by omega) (by omega)]
      unfold ofv offv
      refine ⟨?_, ?_, ?_⟩ <;> (repeat' split) <;> omega
    · exact Or.inl ⟨off_rw hR e0 e1 r, fun f => by rw [hc e f e0 e1, if_neg r]⟩
  · rw [setc_ne _ _ (by omega)]
    intro k k0 k1
    rw [hR.2 _ (by omega)]
    exact t2 k k0 k1
  · rw [setc_ne _ _ (by omega), hR.2 _ (by omega)]
    exact t3
  · rw [setc_ne _ _ (by omega), hR.2 _ (by omega)]
    intro i i0 i1
    rw [hR.2 _ (by omega)]
    exact t4 i i0 i1
  · rw [setc_ne _ _ (by omega), w1]
    exact t5
  · rw [setc_ne _ _ (by omega), w1]
    intro i i0 i1
    rw [w2 i i0 i1]
    exact t6 i i0 i1
  · rw [setc_at]
    refine Cls_frame hC (fun e e0 e1 => ?_)
    by_cases r : offB p A e = true
    · right
      have hcv : ∀ f : Int, gt c' e f = offv f (gt (T 121) e f) := fun f => by rw [hc e f e0 e1, if_pos r]
      obtain ⟨c1, c2, c3, c4, c5, c6, c7⟩ := hC e e0 e1
      unfold Clr
      simp only [hcv]
      refine ⟨c1, c2, c3, c4, fun s => ⟨rfl, (c5 s).2⟩, fun a a0 a1 => ?_, fun k k0 k1 => ?_⟩
      · have := c6 a a0 a1
        have e6 : offv 6 (gt (T 121) e 6) = gt (T 121) e 6 := rfl
        rw [e6]
        unfold offv
        refine ⟨⟨?_, ?_⟩, ⟨?_, ?_⟩, ?_⟩ <;> (repeat' split) <;> omega
      · have := c7 k k0 k1
        unfold offv
        refine ⟨⟨?_, ?_⟩, ?_, ?_⟩ <;> (repeat' split) <;> omega
    · exact Or.inl (fun f => by rw [hc e f e0 e1, if_neg r])
theorem wb_iff (hs : gS A) (he : thM A e) : wbB A dv e = true ↔ e = dv ∨ bhM A e dv = true := by
  unfold wbB thB
  rw [Bool.or_eq_true, Bool.and_eq_true, decide_eq_true he]
  simp only [decide_eq_true_eq, true_and]
theorem wb_closed (hs : gS A) (he : thM A e) (hp : brM A (A (23 * e + 2))) (h : wbB A dv (A (23 * e + 2)) = true) : wbB A dv e = true := by
  rw [wb_iff hs he]
  rcases bh_rec (e := dv) hs he with ⟨q, q1⟩ | ⟨q, q1⟩
  · exact absurd hp.1.1 (by omega)
  · right
    rw [q1]
    rcases (wb_iff hs hp.1).mp h with r | r
    · rw [r, decide_eq_true rfl]
      rfl
    · rw [r, Bool.or_true]
theorem to_off (hc : SimC c A) (hs : gS A) : toB c dv e = offB (wbB A dv) A e := by
  have h : toB c dv e = true ↔ offB (wbB A dv) A e = true := by
    rw [offB_iff]
    unfold toB
    rw [decide_eq_true_eq]
    constructor
    · rintro ⟨q1, q2⟩
      have ho := (sc_on hc).mp q1
      refine ⟨(wb_iff hs ho.1).mpr (q2.imp id (fun r => ?_)), ho⟩
      rw [← bhB_eq (SimW_of hc) hs.2.1 ho.1]
      exact r
    · rintro ⟨q1, q2⟩
      refine ⟨(sc_on hc).mpr q2, ((wb_iff hs q2.1).mp q1).imp id (fun r => ?_)⟩
      rw [bhB_eq (SimW_of hc) hs.2.1 q2.1]
      exact r
  cases h1 : toB c dv e <;> cases h2 : offB (wbB A dv) A e <;> simp_all
theorem sp_stop : Sp1 99 (Inv gGd) 94 209 := by
  intro im hI dv _
  have hh := hI.1.1
  have hT := trl_GdT hI
  have hg := hT.2.1
  have hs : SimC (trl im 121) (im 172) := hT.1.1
  have hS := gT_S hg.1
  refine (c_stop (d := 96) hh rfl).mpr ?_
  obtain ⟨r1, r2⟩ := tof_gt (dv := dv) 20 0 (trl im 121, 0) (by omega) (by omega)
  obtain ⟨s1, s2, s3⟩ := ffM_row (p := wbB (im 172) dv) 20 0 (0, im 172) (by omega) (by omega)
  dsimp only at r1 r2 s1 s2 s3
  by_cases c1 : onM (im 172) dv
  · rw [if_pos ((sc_on hs).mpr c1)]
    have hN : GdT gGd (setc (trl im) 121 (lp (tof dv) 20 0 (trl im 121, 0)).1) 120 (lp (ffM (wbB (im 172) dv)) 20 0 (0, im 172)).2 := by
      refine off_GdT (p := wbB (im 172) dv) hT ⟨fun e f e0 e1 f0 f1 => ?_, fun j hj => s2 j (Or.inr hj)⟩ (fun e he hp => wb_closed hS he.1 ?_) (fun e f e0 e1 => ?_)
      · rw [s1 e f f0 f1]
        by_cases q : offB (wbB (im 172) dv) (im 172) e = true
        · rw [if_pos q, if_pos ⟨e0, by omega, q⟩]
        · rw [if_neg q, if_neg (fun r => q r.2.2)]
      · rcases hS.2.1 e he.1 with q | q
        · exact absurd hp.1.1 (by omega)
        · exact q
      · rw [r1 e f, to_off hs hS]
        by_cases q : offB (wbB (im 172) dv) (im 172) e = true
        · rw [if_pos q, if_pos ⟨e0, by omega, q⟩]
        · rw [if_neg q, if_neg (fun r => q r.2.2)]
    have hX : ∀ p : Nat, p < 120 ∨ 170 < p → setc (trl im) 121 (lp (tof dv) 20 0 (trl im 121, 0)).1 p = im p := fun p hp => by
      rw [setc_ne _ _ (by omega), trl_ne (by omega)]
    have hK := act_keep hI hX (by rw [setc_ne _ _ (by omega)]; exact trl_ch hI) hN
    refine ⟨_, rfl, (c_stopM (d := 95) (by rw [kp172 hI hX]; exact hg.1.2.1) (kpHM hI hX)).mpr ?_⟩
    rw [kp172 hI hX, if_pos c1]
    refine ⟨?_, hK⟩
    rw [s3, r2]
    have e1 : lp (cntf (offB (wbB (im 172) dv) (im 172))) 20 0 0 = lp (cntf (toB (trl im 121) dv)) 20 0 0 := cnt_congr 20 0 0 (fun j _ _ => (to_off hs hS).symm)
    rw [e1]
  · rw [if_neg (fun q => c1 ((sc_on hs).mp q))]
    refine ⟨_, rfl, (c_stopM (d := 95) (by rw [trl172]; exact hg.1.2.1) (trlHM hI)).mpr ?_⟩
    rw [trl172, if_neg c1]
    exact ⟨rfl, trl_stay hI⟩
end BD
