/-! CLASS AND REFERENCE: the whole invariant over a predicate of 483 numbers; acts are kept; undo, redo, image, back -/
section SW
variable {im X Y Z : zM} {c A B : Int → Int} {t u v : Nat} {e f b : Int} {G : (Int → Int) → Prop}
theorem Cls_TB (h : Cls c) : TB c := by
  intro e
  by_cases q : 0 ≤ e ∧ e < 20
  · obtain ⟨h6, -, -, -, -, ha, -⟩ := h e q.1 q.2
    refine ⟨h6.2, fun a a0 a1 => ?_⟩
    have := (ha a a0 a1).1
    omega
  · rw [gt_out q]
    refine ⟨by omega, fun a _ _ => ?_⟩
    rw [gt_out q]
    omega
theorem Cls_6 (h : Cls c) (e : Int) : 0 ≤ gt c e 6 + 1 := by
  by_cases q : 0 ≤ e ∧ e < 20
  · have := (h e q.1 q.2).1
    omega
  · rw [gt_out q]
    omega
theorem Cls_TG (h : Cls c) : TG c := by
  refine ⟨Cls_TB h, fun e e0 e1 => ?_⟩
  obtain ⟨h6, -, -, -, -, ha, hk⟩ := h e e0 e1
  refine ⟨fun a a0 a1 => ?_, fun k k0 k1 => ?_⟩
  · have := ha a a0 (by omega)
    omega
  · have := hk k k0 k1
    omega
theorem Cls_gt {c' : Int → Int} (hg : ∀ e f, gt c' e f = gt c e f) (h : Cls c) : Cls c' := by
  unfold Cls at h ⊢
  simp only [hg]
  exact h
theorem wkA_bd : 0 ≤ (wkA A).2 ∧ (wkA A).2 ≤ 20 := by
  have e : (wkA A).2 = lp (cntf (thB A)) 20 0 0 := lw_count 20 0 (fun _ => 0, 0)
  have := cntN_bd (p := thB A) 20 0 0
  omega
/-- a tree is copied -/
theorem GdT_cp (hG : GOK G) (h : GdT G im u A) : GdT G (cpt im t u) t A := by
  obtain ⟨h1, h2, h3⟩ := h
  refine ⟨TrI_cp h1 (hG.2 A h2).2.2.2 wkA_bd.2, h2, ?_⟩
  have e : cpt im t u (t + 1) = cpa 480 (im (t + 1)) (im (u + 1)) := by
    unfold cpt
    rw [setc_ne _ _ (by omega), setc_ne _ _ (by omega), setc_ne _ _ (by omega), setc_ne _ _ (by omega), setc_at]
  rw [e]
  exact Cls_gt (fun _ _ => cp_gt) h3
/-- boxes agree -/
def BxI (G : (Int → Int) → Prop) (im : zM) : Prop := ∀ b : Int, 0 ≤ b → b < 2 → im 119 b = im 192 b ∧ (im 119 b ≠ 0 → GdT G im (boxT b) (row (im 191) b))
/-- bounds of scratch -/
def Scr (im : zM) : Prop := ChB (im 163) ∧ (∀ j : Int, 0 ≤ j → j < 3 → 0 ≤ im 184 j ∧ im 184 j ≤ 100) ∧ DK (im 176)
def Inv (G : (Int → Int) → Prop) (im : zM) : Prop := InvH G im ∧ BxI G im ∧ Scr im
theorem bx_rg (h : 0 ≤ b ∧ b < 2) : 109 ≤ boxT b ∧ boxT b + 4 ≤ 118 := by
  unfold boxT
  omega
theorem BxI_of (hG : GOK G) (h : BxI G im) (hY : ∀ p : Nat, 109 ≤ p → p < 120 → Y p = im p) (h1 : Y 191 = im 191) (h2 : Y 192 = im 192) : BxI G Y := by
  intro b b0 b1
  obtain ⟨g1, g2⟩ := h b b0 b1
  have hb := bx_rg ⟨b0, b1⟩
  rw [hY 119 (by omega) (by omega), h2, h1]
  exact ⟨g1, fun q => GdT_of hG (g2 q) (fun p p0 p1 => hY p (by omega) (by omega)) (fun _ _ _ => rfl)⟩
/-- a change of scratch alone -/
theorem Inv_of (hG : GOK G) (h : Inv G im) (hY : ∀ p : Nat, p < 120 → Y p = im p) (h1 : Y 171 32 = im 171 32 ∧ Y 171 33 = im 171 33) (h2 : Sm (im 172) (Y 172)) (h3 : ∀ p : Nat, 190 ≤ p → Y p = im p) (hs : Scr Y) : Inv G Y := by
  obtain ⟨⟨hh, hm, he, hl, hnow, hpast, hfut⟩, hb, -⟩ := h
  have y1 : Y 1 = im 1 := hY 1 (by omega)
  have hT : ∀ q : Int, 0 ≤ q ∧ q < 21 → ∀ p : Nat, nowT q ≤ p → p ≤ nowT q + 4 → Y p = im p := fun q hq p h0 h1 => by
    have := nw_rg hq
    exact hY p (by omega)
  refine ⟨⟨HH_of hh y1, ?_, ?_, ?_, ?_, fun j j0 j1 => ?_, fun j j0 j1 => ?_⟩, BxI_of hG hb (fun p _ p1 => hY p p1) (h3 _ (by omega)) (h3 _ (by omega)), hs⟩
  · unfold HM at hm ⊢
    rw [h1.1, h1.2]
    exact hm
  · rw [y1, h1.1, h1.2]
    exact he
  · rw [y1]
    exact hl
  · rw [y1]
    exact GdT_of hG hnow (hT _ hh.1) h2
  · rw [y1] at j1
    rw [y1, h3 190 (by omega)]
    exact GdT_of hG (hpast j j0 j1) (hT _ (by omega)) (fun _ _ _ => rfl)
  · rw [y1] at j1
    rw [y1, h3 190 (by omega)]
    exact GdT_of hG (hfut j j0 j1) (hT _ (by omega)) (fun _ _ _ => rfl)
theorem row_kaS {w : Int → Int} {r : Int} (h : 0 ≤ r ∧ r < 20) : Sm (row w (r + 1)) (row (kaS w 0) r) := fun j h0 h1 => by
  unfold row kaS
  rw [if_pos ⟨by omega, by omega⟩, show 483 * (r + 1) + j = 483 * r + j + 483 by omega]
theorem Sm_trans {D : Int → Int} (h : Sm A B) (h' : Sm B D) : Sm A D := fun j h0 h1 => (h j h0 h1).trans (h' j h0 h1)
/-- an act is kept on both sides -/
theorem Inv_keep (hG : GOK G) (h : Inv G im) (hX : ∀ p : Nat, p < 120 → X p = im p) (hT : GdT G X 120 A) (hY : ∀ p : Nat, p < 120 → Y p = kp X p) (hZ : Z 190 = im 190 ∧ Z 171 32 = im 171 32) (hZ2 : Sm (im 172) (Z 172)) (y1 : Y 171 32 = kaA Z + 1 ∧ Y 171 33 = 0) (y2 : Y 190 = kaW Z) (y3 : Sm A (Y 172)) (y4 : Y 191 = im 191 ∧ Y 192 = im 192) (hs : Scr Y) : Inv G Y := by
  obtain ⟨⟨hh, hm, ⟨e1, e2⟩, hl, hnow, hpast, hfut⟩, hb, -⟩ := h
  obtain ⟨⟨p0, p1⟩, ⟨n0, n1⟩, ⟨f0, f1⟩⟩ := id hh
  have x1 : X 1 = im 1 := hX 1 (by omega)
  have k1 : kp X 1 = ups (ups (ups (im 1) 1 ((im 1 1 + 1) % 21)) 2 (min (im 1 2 + 1) 20)) 3 0 := by
    unfold kp
    rw [setc_at, x1]
  have hn := nw_rg (q := (im 1 1 + 1) % 21) (by omega)
  have k2 : ∀ p : Nat, p < 120 → p ≠ 1 → (p < nowT ((im 1 1 + 1) % 21) ∨ nowT ((im 1 1 + 1) % 21) + 4 < p) → Y p = im p := fun p q0 q1 q2 => by
    rw [hY p q0]
    unfold kp
    rw [setc_ne _ _ q1, x1, cpt_ne q2, hX p q0]
  have k3 : ∀ p : Nat, nowT ((im 1 1 + 1) % 21) ≤ p → p ≤ nowT ((im 1 1 + 1) % 21) + 4 → Y p = cpt X (nowT ((im 1 1 + 1) % 21)) 120 p := fun p q0 q1 => by
    rw [hY p (by omega)]
    unfold kp
    rw [setc_ne _ _ (by omega), x1]
  have y11 : Y 1 1 = (im 1 1 + 1) % 21 := by rw [hY 1 (by omega), k1, ups_ne _ _ (by omega), ups_ne _ _ (by omega), ups_at]
  have y12 : Y 1 2 = min (im 1 2 + 1) 20 := by rw [hY 1 (by omega), k1, ups_ne _ _ (by omega), ups_at]
  have y13 : Y 1 3 = 0 := by rw [hY 1 (by omega), k1, ups_at]
  have eA : kaA Z = if im 171 32 = 20 then 19 else im 171 32 := by
    unfold kaA
    rw [hZ.2]
  have eA1 : kaA Z + 1 = min (im 1 2 + 1) 20 := by
    rw [eA]
    split <;> omega
  have hT2 : ∀ q : Int, 0 ≤ q ∧ q < 21 → q ≠ (im 1 1 + 1) % 21 → ∀ p : Nat, nowT q ≤ p → p ≤ nowT q + 4 → Y p = im p := fun q hq hne p h0 h1 => by
    have := nw_rg hq
    refine k2 p (by omega) (by omega) ?_
    unfold nowT at *
    omega
  refine ⟨⟨⟨by rw [y11]; omega, by rw [y12]; omega, by rw [y13]; omega⟩, ⟨by rw [y1.1]; omega, by rw [y1.2]; omega⟩, ⟨by rw [y12, y1.1]; omega, by rw [y13, y1.2]⟩, by rw [y12, y13]; omega, ?_, fun j j0 j1 => ?_, fun j j0 j1 => by rw [y13] at j1; omega⟩, ?_, hs⟩
  · rw [y11]
    exact GdT_of hG (GdT_cp hG hT) k3 y3
  · rw [y12] at j1
    rw [y11, y12, y2]
    by_cases q : j = 1
    · rw [q, show ((im 1 1 + 1) % 21 - 1) % 21 = im 1 1 by omega]
      refine GdT_of hG hnow (hT2 _ ⟨p0, p1⟩ (by omega)) ?_
      rw [← eA1, show kaA Z + 1 - 1 = kaA Z by omega]
      exact Sm_trans hZ2 row_ka
    · rw [show ((im 1 1 + 1) % 21 - j) % 21 = (im 1 1 - (j - 1)) % 21 by omega]
      refine GdT_of hG (hpast (j - 1) (by omega) (by omega)) (hT2 _ (by omega) (by omega)) ?_
      unfold kaW
      rw [hZ.1, hZ.2]
      refine Sm_trans ?_ (row_ka2 (by omega))
      by_cases q2 : im 171 32 = 20
      · rw [if_pos q2, show im 1 2 - (j - 1) = (min (im 1 2 + 1) 20 - j) + 1 by omega]
        exact row_kaS (by omega)
      · rw [if_neg q2, show im 1 2 - (j - 1) = min (im 1 2 + 1) 20 - j by omega]
        exact fun _ _ _ => rfl
  · exact BxI_of hG hb (fun p q0 q1 => k2 p (by omega) (by omega) (by omega)) y4.1 y4.2
theorem sp_undoG (hG : GOK G) : Sp0 99 (Inv G) 131 266 := by
  intro im hI
  obtain ⟨hI, hb, hs⟩ := hI
  have hh := hI.1
  have hm := hI.2.1
  have e1 := hI.2.2.1.1
  by_cases c : im 1 2 = 0
  · refine (c_undo (d := 98) hh).mpr ?_
    rw [if_pos c]
    refine ⟨0, rfl, (c_undoM (d := 97) hm.1 hm.2).mpr ?_⟩
    rw [if_pos (by omega)]
    exact ⟨rfl, hI, hb, hs⟩
  · refine (c_undo (d := 98) hh).mpr ?_
    rw [if_neg c]
    have x171 : setc im 1 (ups (ups (ups (im 1) 1 ((im 1 1 + 21 - 1) % 21)) 2 (im 1 2 - 1)) 3 (im 1 3 + 1)) 171 = im 171 := setc_ne _ _ (by omega)
    refine ⟨1, rfl, (c_undoM (d := 97) (by rw [x171]; exact hm.1) (by rw [x171]; exact hm.2)).mpr ?_⟩
    rw [if_neg (by rw [x171]; omega)]
    have hne : ∀ p : Nat, p ≠ 1 → p ≠ 171 → p ≠ 172 → p ≠ 190 → undM (setc im 1 (ups (ups (ups (im 1) 1 ((im 1 1 + 21 - 1) % 21)) 2 (im 1 2 - 1)) 3 (im 1 3 + 1))) p = im p := fun p q1 q2 q3 q4 => by
      unfold undM swM
      rw [setc_ne _ _ q3, setc_ne _ _ q4, setc_ne _ _ q2, setc_ne _ _ q1]
    have h163 := hne 163 (by omega) (by omega) (by omega) (by omega)
    have h184 := hne 184 (by omega) (by omega) (by omega) (by omega)
    refine ⟨rfl, InvH_undo hG hI c (fun p h0 h1 => hne p (by omega) (by omega) (by omega) (by omega)) ⟨?_, ?_, ?_⟩ ⟨?_, ?_⟩ ?_ ?_, BxI_of hG hb (fun p h0 h1 => hne p (by omega) (by omega) (by omega) (by omega)) (hne _ (by omega) (by omega) (by omega) (by omega)) (hne _ (by omega) (by omega) (by omega) (by omega)), ⟨?_, ?_⟩⟩
    · unfold undM swM
      rw [setc_ne _ _ (by omega), setc_ne _ _ (by omega), setc_ne _ _ (by omega), setc_at, ups_ne _ _ (by omega), ups_ne _ _ (by omega), ups_at]
    · unfold undM swM
      rw [setc_ne _ _ (by omega), setc_ne _ _ (by omega), setc_ne _ _ (by omega), setc_at, ups_ne _ _ (by omega), ups_at]
    · unfold undM swM
      rw [setc_ne _ _ (by omega), setc_ne _ _ (by omega), setc_ne _ _ (by omega), setc_at, ups_at]
    · unfold undM swM
      rw [setc_ne _ _ (by omega), setc_ne _ _ (by omega), setc_at, ups_ne _ _ (by omega), ups_at, x171]
    · unfold undM swM
      rw [setc_ne _ _ (by omega), setc_ne _ _ (by omega), setc_at, ups_at, x171]
    · unfold undM swM
      rw [setc_ne _ _ (by omega), setc_at, setc_ne _ _ (by omega), setc_ne _ _ (by omega), setc_ne _ _ (by omega), setc_ne _ _ (by omega), x171]
    · unfold undM swM
      rw [setc_at, setc_ne _ _ (by omega), setc_ne _ _ (by omega), setc_ne _ _ (by omega), setc_ne _ _ (by omega), x171]
    · rw [h163]; exact hs.1
    · exact ⟨by rw [h184]; exact hs.2.1, by rw [hne 176 (by omega) (by omega) (by omega) (by omega)]; exact hs.2.2⟩
theorem sp_redoG (hG : GOK G) : Sp0 99 (Inv G) 132 267 := by
  intro im hI
  obtain ⟨hI, hb, hs⟩ := hI
  have hh := hI.1
  have hm := hI.2.1
  have e1 := hI.2.2.1
  by_cases c : im 1 3 = 0
  · refine (c_redo (d := 98) hh).mpr ?_
    rw [if_pos c]
    refine ⟨0, rfl, (c_redoM (d := 97) hm.1 hm.2).mpr ?_⟩
    rw [if_pos (by omega)]
    exact ⟨rfl, hI, hb, hs⟩
  · refine (c_redo (d := 98) hh).mpr ?_
    rw [if_neg c]
    have x171 : setc im 1 (ups (ups (ups (im 1) 1 ((im 1 1 + 1) % 21)) 2 (im 1 2 + 1)) 3 (im 1 3 - 1)) 171 = im 171 := setc_ne _ _ (by omega)
    refine ⟨1, rfl, (c_redoM (d := 97) (by rw [x171]; exact hm.1) (by rw [x171]; exact hm.2)).mpr ?_⟩
    rw [if_neg (by rw [x171]; omega)]
    have hne : ∀ p : Nat, p ≠ 1 → p ≠ 171 → p ≠ 172 → p ≠ 190 → redM (setc im 1 (ups (ups (ups (im 1) 1 ((im 1 1 + 1) % 21)) 2 (im 1 2 + 1)) 3 (im 1 3 - 1))) p = im p := fun p q1 q2 q3 q4 => by
      unfold redM swM
      rw [setc_ne _ _ q2, setc_ne _ _ q3, setc_ne _ _ q4, setc_ne _ _ q1]
    have h163 := hne 163 (by omega) (by omega) (by omega) (by omega)
    have h184 := hne 184 (by omega) (by omega) (by omega) (by omega)
    refine ⟨rfl, InvH_redo hG hI c (fun p h0 h1 => hne p (by omega) (by omega) (by omega) (by omega)) ⟨?_, ?_, ?_⟩ ⟨?_, ?_⟩ ?_ ?_, BxI_of hG hb (fun p h0 h1 => hne p (by omega) (by omega) (by omega) (by omega)) (hne _ (by omega) (by omega) (by omega) (by omega)) (hne _ (by omega) (by omega) (by omega) (by omega)), ⟨?_, ?_⟩⟩
    · unfold redM swM
      rw [setc_ne _ _ (by omega), setc_ne _ _ (by omega), setc_ne _ _ (by omega), setc_at, ups_ne _ _ (by omega), ups_ne _ _ (by omega), ups_at]
    · unfold redM swM
      rw [setc_ne _ _ (by omega), setc_ne _ _ (by omega), setc_ne _ _ (by omega), setc_at, ups_ne _ _ (by omega), ups_at]
    · unfold redM swM
      rw [setc_ne _ _ (by omega), setc_ne _ _ (by omega), setc_ne _ _ (by omega), setc_at, ups_at]
    · unfold redM
      rw [setc_at, ups_ne _ _ (by omega), ups_at, x171]
    · unfold redM
      rw [setc_at, ups_at, x171]
    · unfold redM swM
      rw [setc_ne _ _ (by omega), setc_ne _ _ (by omega), setc_at, setc_ne _ _ (by omega), setc_ne _ _ (by omega), x171]
    · unfold redM swM
      rw [setc_ne _ _ (by omega), setc_at, setc_ne _ _ (by omega), setc_ne _ _ (by omega), x171]
    · rw [h163]; exact hs.1
    · exact ⟨by rw [h184]; exact hs.2.1, by rw [hne 176 (by omega) (by omega) (by omega) (by omega)]; exact hs.2.2⟩
theorem wk_count : (wkA A).2 = lp (cntf (thB A)) 20 0 0 := lw_count 20 0 (fun _ => 0, 0)
theorem sp_image (hG : GOK G) : Sp1 99 (Inv G) 133 268 := by
  intro im hI b _
  have hI0 := hI
  obtain ⟨⟨hh, hm, e, hl, hnow, hpast, hfut⟩, hb, hs⟩ := hI
  have hn := nw_rg hh.1
  refine (c_image (d := 98) hh rfl).mpr ?_
  by_cases c : 0 ≤ b ∧ b < 2
  · rw [if_pos c]
    have hbr := bx_rg c
    have xne : ∀ p : Nat, (p < boxT b ∨ boxT b + 4 < p) → p ≠ 119 → setc (cpt im (boxT b) (nowT (im 1 1))) 119 (ups (im 119) b 1) p = im p := fun p q0 q1 => by
      rw [setc_ne _ _ q1, cpt_ne q0]
    refine ⟨_, rfl, (c_imageM (d := 96)).mpr ?_⟩
    rw [if_pos (show 0 ≤ b ∧ b ≤ 1 by omega), xne 172 (by omega) (by omega), xne 191 (by omega) (by omega), xne 192 (by omega) (by omega)]
    have e4 : im (nowT (im 1 1)) 4 = lp (cntf (thB (im 172))) 20 0 0 := by rw [hnow.1.2.2.2.2.1, wk_count]
    rw [e4]
    refine ⟨rfl, ?_⟩
    have yne : ∀ p : Nat, (p < boxT b ∨ boxT b + 4 < p) → p ≠ 119 → p ≠ 191 → p ≠ 192 → setc (setc (setc (cpt im (boxT b) (nowT (im 1 1))) 119 (ups (im 119) b 1)) 191 (kaB (im 191) (im 172) (483 * b) 0)) 192 (ups (im 192) b 1) p = im p := fun p q0 q1 q2 q3 => by
      rw [setc_ne _ _ q3, setc_ne _ _ q2, xne p q0 q1]
    generalize hYd : setc (setc (setc (cpt im (boxT b) (nowT (im 1 1))) 119 (ups (im 119) b 1)) 191 (kaB (im 191) (im 172) (483 * b) 0)) 192 (ups (im 192) b 1) = Y at yne
    have y119 : Y 119 = ups (im 119) b 1 := by rw [← hYd, setc_ne _ _ (by omega), setc_ne _ _ (by omega), setc_at]
    have y192 : Y 192 = ups (im 192) b 1 := by rw [← hYd, setc_at]
    have y191 : Y 191 = kaB (im 191) (im 172) (483 * b) 0 := by rw [← hYd, setc_ne _ _ (by omega), setc_at]
    have yT : ∀ p : Nat, boxT b ≤ p → p ≤ boxT b + 4 → Y p = cpt im (boxT b) (nowT (im 1 1)) p := fun p q0 q1 => by
      rw [← hYd, setc_ne _ _ (by omega), setc_ne _ _ (by omega), setc_ne _ _ (by omega)]
    have hT : ∀ q : Int, 0 ≤ q ∧ q < 21 → ∀ p : Nat, nowT q ≤ p → p ≤ nowT q + 4 → Y p = im p := fun q hq p h0 h1 => by
      have := nw_rg hq
      exact yne p (by omega) (by omega) (by omega) (by omega)
    have y1 := yne 1 (by omega) (by omega) (by omega) (by omega)
    have y171 := yne 171 (by omega) (by omega) (by omega) (by omega)
    have y172 := yne 172 (by omega) (by omega) (by omega) (by omega)
    have y190 := yne 190 (by omega) (by omega) (by omega) (by omega)
    have y163 := yne 163 (by omega) (by omega) (by omega) (by omega)
    have y184 := yne 184 (by omega) (by omega) (by omega) (by omega)
    refine ⟨⟨HH_of hh y1, by unfold HM at hm ⊢; rw [y171]; exact hm, by rw [y1, y171]; exact e, by rw [y1]; exact hl, ?_, ?_, ?_⟩, fun b' b0 b1 => ?_, ⟨by rw [y163]; exact hs.1, ⟨by rw [y184]; exact hs.2.1, by rw [yne 176 (by omega) (by omega) (by omega) (by omega)]; exact hs.2.2⟩⟩⟩
    · rw [y1, y172]
      exact GdT_of hG hnow (hT _ hh.1) (fun _ _ _ => rfl)
    · rw [y1, y190]
      exact fun j j0 j1 => GdT_of hG (hpast j j0 j1) (hT _ (by omega)) (fun _ _ _ => rfl)
    · rw [y1, y190]
      exact fun j j0 j1 => GdT_of hG (hfut j j0 j1) (hT _ (by omega)) (fun _ _ _ => rfl)
    · rw [y119, y192, y191]
      by_cases q : b' = b
      · rw [q, ups_at, ups_at]
        exact ⟨rfl, fun _ => GdT_of hG (GdT_cp hG hnow) yT row_ka⟩
      · rw [ups_ne _ _ q, ups_ne _ _ q]
        obtain ⟨g1, g2⟩ := hb b' b0 b1
        have hb2 := bx_rg ⟨b0, b1⟩
        have hd : boxT b' + 4 < boxT b ∨ boxT b + 4 < boxT b' := by
          unfold boxT
          omega
        exact ⟨g1, fun q2 => GdT_of hG (g2 q2) (fun p p0 p1 => yne p (by omega) (by omega) (by omega) (by omega)) (row_ka2 q)⟩
  · rw [if_neg c]
    refine ⟨_, rfl, (c_imageM (d := 96)).mpr ?_⟩
    rw [if_neg (by omega)]
    exact ⟨rfl, hI0⟩
theorem row_bk {w A : Int → Int} : Sm (row w b) (bkA w A (483 * b) 0) := fun j h0 h1 => by
  unfold row bkA
  rw [if_pos ⟨h0, h1⟩]
theorem sp_back (hG : GOK G) : Sp1 99 (Inv G) 134 269 := by
  intro im hI b _
  have hI0 := hI
  obtain ⟨⟨hh, hm, e, hl, hnow, hpast, hfut⟩, hb, hs⟩ := hI
  have hn := nw_rg hh.1
  refine (c_back (d := 97) hh rfl).mpr ?_
  by_cases c : 0 ≤ b ∧ b < 2 ∧ im 119 b ≠ 0
  · rw [if_pos c]
    have hbr := bx_rg ⟨c.1, c.2.1⟩
    obtain ⟨g1, g2⟩ := hb b c.1 c.2.1
    have hg := g2 c.2.2
    have xne : ∀ p : Nat, (p < nowT (im 1 1) ∨ nowT (im 1 1) + 4 < p) → p ≠ 1 → setc (cpt im (nowT (im 1 1)) (boxT b)) 1 (ups (ups (im 1) 2 0) 3 0) p = im p := fun p q0 q1 => by
      rw [setc_ne _ _ q1, cpt_ne q0]
    refine ⟨_, rfl, (c_backM (d := 96)).mpr ?_⟩
    rw [xne 192 (by omega) (by omega), xne 191 (by omega) (by omega), xne 172 (by omega) (by omega), xne 171 (by omega) (by omega), if_pos (show 0 ≤ b ∧ b ≤ 1 ∧ im 192 b ≠ 0 from ⟨c.1, by omega, by rw [← g1]; exact c.2.2⟩)]
    have e4 : im (boxT b) 4 = lp (cntf (thB (bkA (im 191) (im 172) (483 * b) 0))) 20 0 0 := by
      rw [hg.1.2.2.2.2.1, wk_count]
      refine cnt_congr 20 0 0 (fun j j0 j1 => ?_)
      unfold thB
      exact decide_eq_decide.mpr (th_congr row_bk)
    rw [e4]
    refine ⟨rfl, ?_⟩
    have yne : ∀ p : Nat, (p < nowT (im 1 1) ∨ nowT (im 1 1) + 4 < p) → p ≠ 1 → p ≠ 171 → p ≠ 172 → setc (setc (setc (cpt im (nowT (im 1 1)) (boxT b)) 1 (ups (ups (im 1) 2 0) 3 0)) 172 (bkA (im 191) (im 172) (483 * b) 0)) 171 (ups (ups (im 171) 32 0) 33 0) p = im p := fun p q0 q1 q2 q3 => by
      rw [setc_ne _ _ q2, setc_ne _ _ q3, xne p q0 q1]
    generalize hYd : setc (setc (setc (cpt im (nowT (im 1 1)) (boxT b)) 1 (ups (ups (im 1) 2 0) 3 0)) 172 (bkA (im 191) (im 172) (483 * b) 0)) 171 (ups (ups (im 171) 32 0) 33 0) = Y at yne
    have y1 : Y 1 = ups (ups (im 1) 2 0) 3 0 := by rw [← hYd, setc_ne _ _ (by omega), setc_ne _ _ (by omega), setc_at]
    have y11 : Y 1 1 = im 1 1 := by rw [y1, ups_ne _ _ (by omega), ups_ne _ _ (by omega)]
    have y12 : Y 1 2 = 0 := by rw [y1, ups_ne _ _ (by omega), ups_at]
    have y13 : Y 1 3 = 0 := by rw [y1, ups_at]
    have z2 : Y 171 32 = 0 := by rw [← hYd, setc_at, ups_ne _ _ (by omega), ups_at]
    have z3 : Y 171 33 = 0 := by rw [← hYd, setc_at, ups_at]
    have y172 : Y 172 = bkA (im 191) (im 172) (483 * b) 0 := by rw [← hYd, setc_ne _ _ (by omega), setc_at]
    have yT : ∀ p : Nat, nowT (im 1 1) ≤ p → p ≤ nowT (im 1 1) + 4 → Y p = cpt im (nowT (im 1 1)) (boxT b) p := fun p q0 q1 => by
      rw [← hYd, setc_ne _ _ (by omega), setc_ne _ _ (by omega), setc_ne _ _ (by omega)]
    refine ⟨⟨⟨by rw [y11]; exact hh.1, by rw [y12]; omega, by rw [y13]; omega⟩, ⟨by rw [z2]; omega, by rw [z3]; omega⟩, ⟨by rw [y12, z2], by rw [y13, z3]⟩, by rw [y12, y13]; omega, ?_, fun j j0 j1 => by rw [y12] at j1; omega, fun j j0 j1 => by rw [y13] at j1; omega⟩, BxI_of hG hb (fun p p0 p1 => yne p (by omega) (by omega) (by omega) (by omega)) (yne _ (by omega) (by omega) (by omega) (by omega)) (yne _ (by omega) (by omega) (by omega) (by omega)), ⟨?_, ?_⟩⟩
    · rw [y11, y172]
      exact GdT_of hG (GdT_cp hG hg) yT row_bk
    · rw [yne 163 (by omega) (by omega) (by omega) (by omega)]; exact hs.1
    · exact ⟨by rw [yne 184 (by omega) (by omega) (by omega) (by omega)]; exact hs.2.1, by rw [yne 176 (by omega) (by omega) (by omega) (by omega)]; exact hs.2.2⟩
  · rw [if_neg c]
    refine ⟨_, rfl, (c_backM (d := 96)).mpr ?_⟩
    rw [if_neg (fun q => by
      obtain ⟨g1, -⟩ := hb b q.1 (by omega)
      exact c ⟨q.1, by omega, by rw [g1]; exact q.2.2⟩)]
    exact ⟨rfl, hI0⟩
end SW
