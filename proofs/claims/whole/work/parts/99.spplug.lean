/-! THE STEPS endpoint and bridge -/
section PB
variable {im X Y : zM} {c A B : Int → Int} {e f a b p x d sl wh nu un ty : Int}
def nwc (c : Int → Int) (d ty a sl nu un : Int) : Int → Int := stc (stc (plgc c d ty a sl) d 4 nu) d 5 un
theorem gt_nwc (hd : 0 ≤ d ∧ d < 20) : gt (nwc c d ty a sl nu un) e f = if e = d ∧ f = 5 then un else if e = d ∧ f = 4 then nu else gt (plgc c d ty a sl) e f := by
  unfold nwc
  rw [gt_stc, gt_stc]
  by_cases q : e = d ∧ f = 5
  · rw [if_pos q, if_pos ⟨q.1, q.2, hd.1, hd.2, by omega, by omega⟩]
  · rw [if_neg q, if_neg (fun r => q ⟨r.1, r.2.1⟩)]
    by_cases q2 : e = d ∧ f = 4
    · rw [if_pos q2, if_pos ⟨q2.1, q2.2, hd.1, hd.2, by omega, by omega⟩]
    · rw [if_neg q2, if_neg (fun r => q2 ⟨r.1, r.2.1⟩)]
theorem gt_nwc_ne (hd : 0 ≤ d ∧ d < 20) (he : e ≠ d) : gt (nwc c d ty a sl nu un) e f = gt c e f := by
  rw [gt_nwc hd, if_neg (fun r => he r.1), if_neg (fun r => he r.1), gt_plgc hd, if_neg (fun r => he r.1), if_neg (fun r => he r.1), if_neg (fun r => he r.1), if_neg (fun r => he r.1), if_neg (fun r => he r.1)]
theorem gt_nwc_at (hd : 0 ≤ d ∧ d < 20) : gt (nwc c d ty a sl nu un) d f = if f = 5 then un else if f = 4 then nu else if f = 0 then ty else if f = 1 then a else if f = 2 then sl else if f = 7 ∨ f = 8 ∨ (15 ≤ f ∧ f ≤ 19) then -1 else if f = 20 ∨ f = 21 then 0 else gt c d f := by
  rw [gt_nwc hd, gt_plgc hd]
  simp only [true_and]
theorem nw_SimC (h : SimC c A) (hC : Cls c) (hd : 0 ≤ d ∧ d < 20) (hv : ¬ thM A d) (hw : wh = 0 ∨ wh = 1) : SimC (nwc c d (1 + wh) a sl nu un) (nwA A d a sl wh nu un) := by
  intro e e0 e1
  by_cases q : e = d
  · subst q
    have h0 : gt c e 0 = 0 := ((h e e0 e1).2.2.2 (fun r => hv ⟨e0, by omega, r⟩)).1
    obtain ⟨h3, h6⟩ := (hC e e0 e1).2.2.2.2.1 h0
    unfold SimD
    simp only [nwA_at (show 0 ≤ (0 : Int) ∧ (0 : Int) < 23 by omega), nwA_at (show 0 ≤ (1 : Int) ∧ (1 : Int) < 23 by omega), nwA_at (show 0 ≤ (2 : Int) ∧ (2 : Int) < 23 by omega), nwA_at (show 0 ≤ (3 : Int) ∧ (3 : Int) < 23 by omega), nwA_at (show 0 ≤ (4 : Int) ∧ (4 : Int) < 23 by omega), nwA_at (show 0 ≤ (5 : Int) ∧ (5 : Int) < 23 by omega), nwA_at (show 0 ≤ (15 : Int) ∧ (15 : Int) < 23 by omega), nwA_at (show 0 ≤ (16 : Int) ∧ (16 : Int) < 23 by omega)]
    simp [gt_nwc_at hd, h3, h6]
    refine ⟨hw, ?_⟩
    intro a' a0 a1
    omega
  · have hr : ∀ f : Int, 0 ≤ f → f < 23 → nwA A d a sl wh nu un (23 * e + f) = A (23 * e + f) := fun f f0 f1 => nwA_ne q ⟨f0, f1⟩
    have hg := h e e0 e1
    unfold SimD at hg ⊢
    simp only [gt_nwc_ne hd q]
    rw [hr 0 (by omega) (by omega), hr 1 (by omega) (by omega), hr 2 (by omega) (by omega), hr 3 (by omega) (by omega), hr 4 (by omega) (by omega), hr 5 (by omega) (by omega), hr 15 (by omega) (by omega), hr 16 (by omega) (by omega), hr 17 (by omega) (by omega), hr 18 (by omega) (by omega)]
    obtain ⟨q1, q2, q3, q4⟩ := hg
    refine ⟨q1, q2, fun ht => ?_, q4⟩
    obtain ⟨d1, d2, d3, d4, d5, d6, d7, d8, d9⟩ := q3 ht
    have h6 := (hC e e0 e1).1
    refine ⟨d1, d2, d3, d4, d5, d6, d7, fun a a0 a1 => ?_, fun hb => ⟨(d9 hb).1, fun ho => ?_⟩⟩
    · rw [hr _ (by omega) (by omega), hr _ (by omega) (by omega), hr _ (by omega) (by omega)]
      exact d8 a a0 a1
    · obtain ⟨b1, b2, b3⟩ := (d9 hb).2 ho
      refine ⟨b1, b2, fun k k0 k1 => ?_⟩
      rw [hr _ (by omega) (by omega), hr _ (by omega) (by omega)]
      exact b3 k k0 k1
theorem nw_Cls (hC : Cls c) (hd : 0 ≤ d ∧ d < 20) (hty : 0 < ty) (hsl : 0 ≤ sl ∧ sl ≤ 7) (hnu : 0 ≤ nu ∧ nu ≤ 3) (hun : 0 ≤ un ∧ un ≤ 128) : Cls (nwc c d ty a sl nu un) := by
  intro e e0 e1
  by_cases q : e = d
  · subst q
    obtain ⟨c1, c2, c3, c4, c5, c6, c7⟩ := hC e e0 e1
    refine ⟨?_, ?_, ?_, ?_, ?_, fun a' a0 a1 => ?_, fun k k0 k1 => ?_⟩
    · simp [gt_nwc_at hd]; exact c1
    · simp [gt_nwc_at hd]; exact hnu
    · simp [gt_nwc_at hd]; exact hun
    · simp [gt_nwc_at hd]; exact hsl
    · simp [gt_nwc_at hd]; omega
    · obtain ⟨b1, b2, b3⟩ := c6 a' a0 a1
      rw [gt_nwc_at hd, gt_nwc_at hd, gt_nwc_at hd, if_neg (by omega), if_neg (by omega), if_neg (by omega), if_neg (by omega), if_neg (by omega), if_neg (by omega), if_neg (by omega), if_neg (by omega), if_neg (by omega), if_neg (by omega), if_neg (by omega), if_neg (by omega), if_pos (show 15 + a' = 7 ∨ 15 + a' = 8 ∨ (15 ≤ 15 + a' ∧ 15 + a' ≤ 19) by omega), if_neg (by omega), if_neg (by omega), if_neg (by omega), if_neg (by omega), if_neg (by omega), if_neg (by omega), if_neg (by omega)]
      exact ⟨b1, by omega, b3⟩
    · rw [gt_nwc_at hd, gt_nwc_at hd, if_neg (by omega), if_neg (by omega), if_neg (by omega), if_neg (by omega), if_neg (by omega), if_pos (show 18 + k = 7 ∨ 18 + k = 8 ∨ (15 ≤ 18 + k ∧ 18 + k ≤ 19) by omega), if_neg (by omega), if_neg (by omega), if_neg (by omega), if_neg (by omega), if_neg (by omega), if_neg (by omega), if_pos (show 20 + k = 20 ∨ 20 + k = 21 by omega)]
      omega
  · simp only [gt_nwc_ne hd q]
    exact hC e e0 e1
/-- the class's trial tree after a device was plugged in -/
theorem nw_GdT {T : zM} (h : GdT gGd T 120 A) (hd : 0 ≤ d ∧ d < 20) (hv : ¬ thM A d) (ha : a = -1 ∨ brM A a) (hsl : 0 ≤ sl ∧ sl ≤ 7) (hfree : ff (isM A a sl) 20 0 < 0) (hlv : lbM A a ≤ 4) (hw : wh = 0 ∨ wh = 1) (hnu : 0 ≤ nu ∧ nu ≤ 3) (hun : 0 ≤ un ∧ un ≤ 128) : GdT gGd (setc (pln T d (1 + wh) a sl) 121 (nwc (T 121) d (1 + wh) a sl nu un)) 120 (nwA A d a sl wh nu un) := by
  obtain ⟨⟨t1, t2, t3, t4, t5, t6⟩, hg, hC⟩ := h
  have hgN := nw_good (nu := nu) (un := un) hg hd hv ha hsl hfree hlv hw hnu hun
  have hS := nw_SimC (a := a) (sl := sl) (nu := nu) (un := un) t1 hC hd hv hw
  have hW : SimW (plgc (T 121) d (1 + wh) a sl) (nwA A d a sl wh nu un) := SimW_gt (SimW_of hS) (fun e f f0 f1 => by
    rw [gt_nwc hd, if_neg (by omega), if_neg (by omega)])
  obtain ⟨w1, w2⟩ := wkb_wkA (o := T 123) hW (gT_S hgN.1)
  have far : ∀ j : Int, 460 ≤ j → nwA A d a sl wh nu un j = A j := fun j hj => nwA_far (by omega)
  have x122 : setc (pln T d (1 + wh) a sl) 121 (nwc (T 121) d (1 + wh) a sl nu un) 122 = T 122 := by
    unfold pln
    rw [setc_ne _ _ (by omega), stw_ne (by omega) (by omega), setc_ne _ _ (by omega)]
  have x124 : setc (pln T d (1 + wh) a sl) 121 (nwc (T 121) d (1 + wh) a sl nu un) 124 = T 124 := by
    unfold pln
    rw [setc_ne _ _ (by omega), stw_ne (by omega) (by omega), setc_ne _ _ (by omega)]
  have x120 : setc (pln T d (1 + wh) a sl) 121 (nwc (T 121) d (1 + wh) a sl nu un) 120 = ups (T 120) 4 (wkb (plgc (T 121) d (1 + wh) a sl) 5 (-1) (T 123, 0)).2 := by
    unfold pln stw
    rw [setc_ne _ _ (by omega), setc_at, setc_ne _ _ (by omega)]
  have x123 : setc (pln T d (1 + wh) a sl) 121 (nwc (T 121) d (1 + wh) a sl nu un) 123 = (wkb (plgc (T 121) d (1 + wh) a sl) 5 (-1) (T 123, 0)).1 := by
    unfold pln stw
    rw [setc_ne _ _ (by omega), setc_ne _ _ (by omega), setc_at]
  refine ⟨⟨?_, ?_, ?_, ?_, ?_, ?_⟩, hgN, ?_⟩
  · rw [setc_at]
    exact hS
  · rw [x122]
    intro k k0 k1
    rw [far _ (by omega)]
    exact t2 k k0 k1
  · rw [x120, ups_ne _ _ (by omega), far _ (by omega)]
    exact t3
  · rw [x124, far _ (by omega)]
    intro i i0 i1
    rw [far _ (by omega)]
    exact t4 i i0 i1
  · rw [x120, ups_at]
    exact w1
  · rw [x123]
    exact w2
  · rw [setc_at]
    exact nw_Cls hC hd (by omega) hsl hnu hun
theorem trl_far (hI : Inv gGd im) {p : Nat} (hp : p < 120 ∨ 170 < p) : trl im p = im p := trl_ne (by omega)
theorem trl_ch (hI : Inv gGd im) : ChB (trl im 163) := by
  rw [trl_ne (by omega)]
  exact hI.2.2.1
/-- the class finds a free device just where the reference does -/
theorem frD_eq (hc : SimC c A) (hg : gT A) : (cpM A a sl → frD c a sl = fnM A) ∧ (¬ cpM A a sl → frD c a sl = -1) := by
  have hS := gT_S hg
  have ef : ff (plgB c a sl) 20 0 = ff (isM A a sl) 20 0 := ff_congr 20 0 (fun _ _ _ => sim_plg hc)
  have hfc := ff_cases (isM A a sl) 20 0
  have hnc := ff_cases (fun i => !thB A i) 20 0
  have hn0 : fnM A = ff (fun i => !thB A i) 20 0 := rfl
  have hlv : (a = -1 ∨ brM A a) → dpf c 5 a = lbM A a := fun q => by
    rw [dp_eq (SimW_of hc) hS.2.1 5 a (q.imp id (fun r => r.1)), lb_eq (q.imp id (fun r => r.1.1))]
  unfold frD
  rw [ef, sim_free hc]
  constructor
  · rintro ⟨⟨q1, q2, q3⟩, q4, q5⟩
    rw [if_pos ⟨q1.imp id (fun r => (sc_br hc).mpr r), q2.1, by omega, by omega, by rw [hlv q1]; exact q4⟩]
  · intro hq
    by_cases r : (a = -1 ∨ gt c a 0 = 2) ∧ 0 ≤ sl ∧ sl < 8 ∧ ff (isM A a sl) 20 0 = -1 ∧ dpf c 5 a ≤ 4
    · have ha : a = -1 ∨ brM A a := r.1.imp id (fun s => (sc_br hc).mp s)
      rw [if_pos r]
      have hl := hlv ha
      rcases hnc with s | s
      · omega
      · exact absurd ⟨⟨ha, ⟨r.2.1, by omega⟩, by omega⟩, by omega, by omega⟩ hq
    · rw [if_neg r]
theorem fn_vac (h : 0 ≤ fnM A) : (0 ≤ fnM A ∧ fnM A < 20) ∧ ¬ thM A (fnM A) := by
  have hn0 : fnM A = ff (fun i => !thB A i) 20 0 := rfl
  rcases ff_cases (fun i => !thB A i) 20 0 with s | ⟨s1, s2, s3⟩
  · omega
  · refine ⟨by omega, fun q => ?_⟩
    rw [← hn0] at s3
    unfold thB at s3
    rw [decide_eq_true q] at s3
    exact absurd s3 (by decide)
theorem sp_endpoint : Sp2 99 (Inv gGd) 85 164 := by
  intro im hI a _ sl _
  have hh := hI.1.1
  have hm := hI.1.2.1
  have hT := trl_GdT hI
  have hg := hT.2.1
  obtain ⟨f1, f2⟩ := frD_eq (a := a) (sl := sl) hT.1.1 hg.1
  refine (c_endpoint (d := 88) hh).mpr ?_
  by_cases c1 : cpM (im 172) a sl
  · obtain ⟨v1, v2⟩ := fn_vac c1.2.2
    rw [f1 c1, if_neg (by omega)]
    have hN := nw_GdT (wh := 0) (nu := 0) (un := 0) hT v1 v2 c1.1.1 c1.1.2.1 c1.1.2.2 c1.2.1 (Or.inl rfl) (by omega) (by omega)
    rw [show (1 : Int) + 0 = 1 from rfl] at hN
    have hX : ∀ p : Nat, p < 120 ∨ 170 < p → setc (pln (trl im) (fnM (im 172)) 1 a sl) 121 (nwc (trl im 121) (fnM (im 172)) 1 a sl 0 0) p = im p := fun p hp => by
      rw [setc_ne _ _ (by omega), pln_ne (by omega), trl_ne (by omega)]
    have h163 : setc (pln (trl im) (fnM (im 172)) 1 a sl) 121 (nwc (trl im 121) (fnM (im 172)) 1 a sl 0 0) 163 = im 163 := by rw [setc_ne _ _ (by omega), pln_ne (by omega), trl_ne (by omega)]
    have hK := act_keep hI hX (by rw [h163]; exact hI.2.2.1) hN
    have e172 : kp (setc (pln (trl im) (fnM (im 172)) 1 a sl) 121 (nwc (trl im 121) (fnM (im 172)) 1 a sl 0 0)) 172 = im 172 := by rw [kp_far hI (hX 1 (by omega)) (by omega), hX _ (by omega)]
    have e171 : kp (setc (pln (trl im) (fnM (im 172)) 1 a sl) 121 (nwc (trl im 121) (fnM (im 172)) 1 a sl 0 0)) 171 = im 171 := by rw [kp_far hI (hX 1 (by omega)) (by omega), hX _ (by omega)]
    have eHM : HM (kp (setc (pln (trl im) (fnM (im 172)) 1 a sl) 121 (nwc (trl im 121) (fnM (im 172)) 1 a sl 0 0))) := by
      unfold HM at hm ⊢
      rw [e171]
      exact hm
    show ∃ v : Int, _ = some (Sum.inl v) ∧ CallP 99 164 _ (kp (setc (pln (trl im) (fnM (im 172)) 1 a sl) 121 (nwc (trl im 121) (fnM (im 172)) 1 a sl 0 0))) _
    generalize kp (setc (pln (trl im) (fnM (im 172)) 1 a sl) 121 (nwc (trl im 121) (fnM (im 172)) 1 a sl 0 0)) = Y at hK e172 eHM ⊢
    refine ⟨_, rfl, (c_endpointM (d := 94) (by rw [e172]; exact hg.1.2.1) eHM).mpr ?_⟩
    rw [e172, if_pos c1]
    refine ⟨rfl, ?_⟩
    rw [← plM_nwA] at hK
    exact hK
  · rw [f2 c1, if_pos rfl]
    have e172 : trl im 172 = im 172 := trl_ne (by omega)
    refine ⟨_, rfl, (c_endpointM (d := 94) (by rw [e172]; exact hg.1.2.1) ?_).mpr ?_⟩
    · unfold HM at hm ⊢
      rw [trl_ne (by omega)]
      exact hm
    · rw [e172, if_neg c1]
      exact ⟨rfl, act_stay hI (fun p hp => trl_ne (by omega)) (trl_ch hI)⟩
end PB
