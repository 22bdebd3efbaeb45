/-! THE STEP blame -/
section GD0
variable {im X Y Z T : zM} {c c' cF A B F o w : Int → Int} {e f a b k t x v n N d i dv : Int} {m : Nat} {P q : Int → Bool} {p : Int → Bool}
/-- what something is behind is a bridge -/
theorem bh_br (hs : gS A) : ∀ (n : Nat) (x : Int), thM A x → leM A x ≤ n → bhM A x e = true → brM A e
  | n, x, hx, hl, hb => by
    rcases bh_rec (e := e) hs hx with ⟨q, q1⟩ | ⟨q, q1⟩
    · rw [q1] at hb
      exact absurd hb (by decide)
    · rw [q1, Bool.or_eq_true] at hb
      rcases hb with r | r
      · rw [of_decide_eq_true r]
        exact q
      · rcases le_rec hs hx with ⟨u, -⟩ | ⟨u, u1⟩
        · have := q.1.1
          omega
        · match n, hl with
          | 0, hl =>
            have := le_bd A (A (23 * x + 2))
            omega
          | n + 1, hl => exact bh_br hs n _ q.1 (by omega) r
theorem cnt_one (he : 0 ≤ e ∧ e < 20) : lp (cntf (fun x => decide (x = e))) 20 0 0 = 1 := by
  obtain ⟨h0, h1⟩ := he
  rcases (show e = 0 ∨ e = 1 ∨ e = 2 ∨ e = 3 ∨ e = 4 ∨ e = 5 ∨ e = 6 ∨ e = 7 ∨ e = 8 ∨ e = 9 ∨ e = 10 ∨ e = 11 ∨ e = 12 ∨ e = 13 ∨ e = 14 ∨ e = 15 ∨ e = 16 ∨ e = 17 ∨ e = 18 ∨ e = 19 by omega) with rfl | rfl | rfl | rfl | rfl | rfl | rfl | rfl | rfl | rfl | rfl | rfl | rfl | rfl | rfl | rfl | rfl | rfl | rfl | rfl <;> rfl
/-- without an endpoint -/
theorem rm_ep (hT : GdT gGd T 120 A) (he : epM A e) : GdT gGd (rmM T e) 120 (ups A (23 * e + 0) 0) ∧ T 120 4 - rmM T e 120 4 = 1 := by
  have hs := gT_S hT.2.1.1
  have hr := th_rg he.1
  obtain ⟨h1, h2⟩ := rm_GdT (p := fun x => decide (x = e)) (dv := e) (B := ups A (23 * e + 0) 0) hT ⟨fun x x0 x1 hx => by
    have hx' : x = e := of_decide_eq_true hx
    rw [hx', ups_at]
    omega, fun j hj => ups_ne _ _ (hj e hr.1 hr.2 (decide_eq_true rfl))⟩ (fun x hx => by
    constructor
    · exact fun q => Or.inl (of_decide_eq_true q)
    · rintro (q | q)
      · exact decide_eq_true q
      · have hb := bh_br hs 4 x hx (le_bd A x).2 q
        have h0 := he.2
        have h1 := hb.2
        omega) (fun x _ _ hx => by rw [of_decide_eq_true hx]; exact he.1)
  exact ⟨h1, by rw [h2]; exact cnt_one hr⟩
/-- numbers without one and what is behind it -/
def rmN (A : Int → Int) (e j : Int) : Int := if (0 ≤ j ∧ j < 460) ∧ j % 23 = 0 ∧ wbB A e (j / 23) = true ∧ thM A (j / 23) then 0 else A j
theorem rm_any (hT : GdT gGd T 120 A) (he : thM A e) : GdT gGd (rmM T e) 120 (rmN A e) := by
  have hs := gT_S hT.2.1.1
  have hr := th_rg he
  have hpi : ∀ x, (fun x => wbB A e x && decide (thM A x)) x = true ↔ wbB A e x = true ∧ thM A x := fun x => by
    dsimp only
    rw [Bool.and_eq_true, decide_eq_true_eq]
  refine (rm_GdT (p := fun x => wbB A e x && decide (thM A x)) (dv := e) (B := rmN A e) hT ⟨fun x x0 x1 hx => ?_, fun j hj => ?_⟩ (fun x hx => ?_) (fun x _ _ hx => ((hpi x).mp hx).2)).1
  · obtain ⟨h1, h2⟩ := (hpi x).mp hx
    unfold rmN
    rw [show (23 * x + 0) / 23 = x by omega, if_pos ⟨by omega, by omega, h1, h2⟩]
    omega
  · unfold rmN
    rw [if_neg]
    rintro ⟨q1, q2, q3, q4⟩
    have hrr := th_rg q4
    exact hj (j / 23) hrr.1 hrr.2 ((hpi _).mpr ⟨q3, q4⟩) (by omega)
  · rw [hpi x, wb_iff hs hx]
    exact ⟨fun q => q.1, fun q => ⟨q, hx⟩⟩
/-- without none -/
theorem rm_no (hT : GdT gGd T 120 A) : GdT gGd (rmM T (-1)) 120 A := by
  have hs := gT_S hT.2.1.1
  exact (rm_GdT (p := fun _ => false) (dv := -1) (B := A) hT ⟨fun x _ _ hx => absurd (show false = true from hx) (by decide), fun _ _ => rfl⟩ (fun x hx => by
    constructor
    · exact fun q => absurd (show false = true from q) (by decide)
    · rintro (q | q)
      · have := hx.1
        omega
      · have := (bh_br hs 4 x hx (le_bd A x).2 q).1.1
        omega) (fun x _ _ hx => absurd (show false = true from hx) (by decide))).1
theorem trl_X (hI : Inv gGd im) (hX : AgB X im) : GdT gGd (trl X) 120 (im 172) := by
  have hh := hI.1.1
  have hn := nw_rg hh.1
  have e1 : X 1 = im 1 := hX 1 (by omega)
  have h := GdT_of gGd_ok hI.1.2.2.2.2.1 (X := X) (B := im 172) (fun p p0 p1 => hX p (by omega)) (fun _ _ _ => rfl)
  unfold trl
  rw [e1]
  exact GdT_cp gGd_ok h
/-- a memory of the reference for any numbers -/
def yM (im : zM) (A : Int → Int) : zM := setc (setc im 172 A) 176 (fun _ => 0)
theorem yM_172 : yM im A 172 = A := by
  unfold yM
  rw [setc_ne _ _ (by omega), setc_at]
theorem yM_DK : DK (yM im A 176) := fun i _ _ => by
  unfold yM
  rw [setc_at]
  omega
/-- the first of a list -/
def fsL (P : Int → Bool) : List Int → Int
  | [] => -1
  | e :: l => if P e = true then e else fsL P l
theorem fsL_filter : ∀ l : List Int, fsL P (l.filter q) = fsL (fun e => q e && P e) l
  | [] => rfl
  | e :: l => by
    by_cases h : q e = true
    · rw [List.filter_cons_of_pos h]
      simp only [fsL, h, Bool.true_and, fsL_filter l]
    · rw [List.filter_cons_of_neg h, fsL_filter l]
      have h' : q e = false := Bool.eq_false_iff.mpr h
      simp only [fsL, h', Bool.false_and]
      rw [if_neg (by decide)]
theorem fsL_congr {P' : Int → Bool} : ∀ l : List Int, (∀ e ∈ l, P e = P' e) → fsL P l = fsL P' l
  | [], _ => rfl
  | e :: l, h => by
    simp only [fsL]
    rw [h e List.mem_cons_self, fsL_congr l (fun x hx => h x (List.mem_cons_of_mem _ hx))]
theorem bm_fs {Bf : Int → Bool} : ∀ (m : Nat) (i : Int), bmS F dv Bf m i = fsL (fun e => decide (e ≠ dv) && Bf e) ((rgL i m).map F)
  | 0, _ => rfl
  | m + 1, i => by
    simp only [bmS, rgL, List.map_cons, fsL]
    rw [bm_fs m (i + 1)]
    by_cases h : F i ≠ dv ∧ Bf (F i) = true
    · rw [if_pos h, if_pos (by rw [decide_eq_true h.1, h.2]; rfl)]
    · rw [if_neg h, if_neg (fun s => h (by
        rw [Bool.and_eq_true, decide_eq_true_eq] at s
        exact s))]
theorem bl_fs (hc : SimC c A) (hF : WkF A w n) {Bf : Int → Bool} : ∀ (m : Nat) (i : Int), 0 ≤ i → i + m = n → blS c w n dv Bf m i = fsL (fun e => decide (A (23 * e + 1) = 0) && (decide (e ≠ dv) && Bf e)) ((rgL i m).map w)
  | 0, _, _, _ => rfl
  | m + 1, i, h0, h1 => by
    have hth := WkF_th hF h0 (show i < n by omega)
    have ew := WkF_wka hF h0 (show i < n by omega)
    have hep : gt c (w i) 0 = 1 ↔ A (23 * w i + 1) = 0 := by
      rw [sc_ep hc]
      exact ⟨fun q => q.2, fun q => ⟨hth, q⟩⟩
    simp only [blS, rgL, List.map_cons, fsL]
    rw [ew, bl_fs hc hF m (i + 1) (by omega) (by omega)]
    by_cases c1 : w i = dv ∨ gt c (w i) 0 ≠ 1
    · rw [if_pos ⟨h0, c1⟩, if_neg (fun s => ?_)]
      rw [Bool.and_eq_true, Bool.and_eq_true, decide_eq_true_eq, decide_eq_true_eq] at s
      rcases c1 with q | q
      · exact s.2.1 q
      · exact q (hep.mpr s.1)
    · rw [if_neg (fun s => c1 s.2)]
      have c2 : w i ≠ dv ∧ A (23 * w i + 1) = 0 := ⟨fun q => c1 (Or.inl q), hep.mp (Decidable.byContradiction fun q => c1 (Or.inr q))⟩
      rw [decide_eq_true c2.1, decide_eq_true c2.2, Bool.true_and, Bool.true_and]
theorem le_fs : ∀ (m : Nat) (i : Int) (y : Int × (Int → Int)), 0 ≤ y.1 → lsO (lp (leF A o) m i y).2 (lp (leF A o) m i y).1 = lsO y.2 y.1 ++ ((rgL i m).map o).filter (fun e => decide (A (23 * e + 1) = 0)) ∧ 0 ≤ (lp (leF A o) m i y).1
  | 0, i, y, h => ⟨by
    show lsO y.2 y.1 = lsO y.2 y.1 ++ []
    rw [List.append_nil], h⟩
  | m + 1, i, y, h => by
    simp only [lp, rgL, List.map_cons]
    by_cases c1 : A (23 * o i + 1) = 0
    · have ec : leF A o i y = (y.1 + 1, ups y.2 y.1 (o i)) := if_pos c1
      obtain ⟨i1, i2⟩ := le_fs m (i + 1) (leF A o i y) (by rw [ec]; dsimp only; omega)
      refine ⟨?_, i2⟩
      rw [i1, ec]
      dsimp only
      rw [lsO_push h, List.filter_cons_of_pos (by exact decide_eq_true c1), List.append_assoc]
      rfl
    · have ec : leF A o i y = y := if_neg c1
      obtain ⟨i1, i2⟩ := le_fs m (i + 1) (leF A o i y) (by rw [ec]; exact h)
      refine ⟨?_, i2⟩
      rw [i1, ec, List.filter_cons_of_neg (by rw [decide_eq_false c1]; decide)]
/-- the endpoints by the walk -/
theorem le_list (hA : Y 172 = A) (hs : gS A) (hF : WkF A w n) : lsO (leW Y).2 (leW Y).1 = (lsO w n).filter (fun e => decide (A (23 * e + 1) = 0)) ∧ 0 ≤ (leW Y).1 := by
  obtain ⟨w1, w2⟩ := wa_eq (im := Y)
  rw [hA] at w1 w2
  obtain ⟨u1, u2⟩ := WkF_uniq hF (wk_F hs)
  have hb := hF.1
  obtain ⟨h1, h2⟩ := le_fs (A := A) (o := (waM Y).1) (waM Y).2.toNat 0 (0, Y 189) (Int.le_refl _)
  have e0 : lsO (Y 189) 0 = [] := rfl
  dsimp only at h1
  rw [e0, List.nil_append] at h1
  have el : (rgL 0 (waM Y).2.toNat).map (waM Y).1 = lsO w n := by
    have : lsO (waM Y).1 (waM Y).2 = lsO w n := by
      rw [w1, ← u1]
      exact lsO_congr (fun i i0 i1 => by rw [w2 i i0 (by omega), u2 i i0 i1])
    exact this
  rw [el] at h1
  have eW : leW Y = lp (leF A (waM Y).1) (waM Y).2.toNat 0 (0, Y 189) := by
    unfold leW
    rw [hA]
  rw [eW]
  exact ⟨h1, h2⟩
theorem leX_172 : psM (leX Y) 172 = Y 172 ∧ psM (leX Y) 176 = Y 176 := by
  rw [psM_172.1, psM_172.2]
  unfold leX
  rw [setc_ne _ _ (by omega), setc_ne _ _ (by omega), wkm_A]
  refine ⟨rfl, ?_⟩
  unfold wkm
  rw [setc_ne _ _ (by omega), setc_ne _ _ (by omega)]
/-- whether one is ON after power-up, on both sides -/
theorem pow_on (hT : GdT gGd X 120 A) (hY : Y 172 = A) (hD : DK (Y 176)) (hd : 0 ≤ dv ∧ dv < 20) : RunOK X 120 ∧ GoP Y ∧ ((0 < gpC Y ∧ onM (goA Y) dv) ↔ gt (run2 X 120).1.1 dv 3 = 1) := by
  obtain ⟨r1, r2, r3, r4, r5, r6⟩ := pow_both hT hY hD
  obtain ⟨-, cn⟩ := pow_cnt hT hY hD
  refine ⟨r1, r2, ?_⟩
  rw [r4 dv hd.1 hd.2, r5 dv]
  refine ⟨fun q => q.2, fun q => ⟨?_, q⟩⟩
  unfold gpC
  refine Decidable.byContradiction fun h => ?_
  have := (cnt_zero 20 0 0).mp (by omega : lp (cntf (goS Y).2.1) 20 0 0 ≤ 0) dv hd.1 (by omega)
  rw [q] at this
  exact absurd this (by decide)
theorem sp_blame : Sp1 99 (Inv gGd) 107 255 := by
  intro im hI dv _
  have hh := Inv_hh hI
  have hT := trl_GdT hI
  have g := hT.2.1
  have hC := Inv_c hI
  have hF := Inv_F hI
  have hs := gT_S g.1
  have hz0 : AgB im im := fun _ _ => rfl
  have hwk : ∀ i : Int, -1 ≤ i → i < im (nowT (im 1 1)) 4 → wka (im (nowT (im 1 1) + 3)) (im (nowT (im 1 1)) 4) i = -1 ∨ thM (im 172) (wka (im (nowT (im 1 1) + 3)) (im (nowT (im 1 1)) 4) i) := fun i i0 i1 => by
    by_cases q : 0 ≤ i
    · right
      rw [WkF_wka hF q i1]
      exact WkF_th hF q i1
    · left
      unfold wka
      rw [if_neg (by omega)]
  -- one and the same answer for all tries
  have hsame : ∀ X, AgB X im → ∀ e, (e = -1 ∨ thM (im 172) e) → (0 ≤ dv ∧ dv < 20) → RunOK (rmM (trl X) e) 120 ∧ (gt (run2 (rmM (trl X) e) 120).1.1 dv 3 = 1 ↔ gt (run2 (rmM (trl im) e) 120).1.1 dv 3 = 1) := fun X hX e he hd => by
    have hB : ∃ B, GdT gGd (rmM (trl X) e) 120 B ∧ GdT gGd (rmM (trl im) e) 120 B := by
      rcases he with q | q
      · rw [q]
        exact ⟨_, rm_no (trl_X hI hX), rm_no (trl_X hI hz0)⟩
      · exact ⟨_, rm_any (trl_X hI hX) q, rm_any (trl_X hI hz0) q⟩
    obtain ⟨B, b1, b2⟩ := hB
    obtain ⟨r1, -, r3⟩ := pow_on (Y := yM im B) b1 yM_172 yM_DK hd
    obtain ⟨-, -, s3⟩ := pow_on (Y := yM im B) b2 yM_172 yM_DK hd
    exact ⟨r1, by rw [← r3, s3]⟩
  have hcl := c_blame (d := 90) (im := im) (dv := dv) (B := fun e => decide (gt (run2 (rmM (trl im) e) 120).1.1 dv 3 = 1)) hh rfl hF.1 (fun hep X hX => by
    have hd := th_rg ((sc_ep hC).mp hep).1
    have hn := (TrI_F (gT_S (trl_X hI hX).2.1.1) (trl_X hI hX).1).1
    refine ⟨hn, fun i i0 i1 => ?_⟩
    obtain ⟨r1, r2⟩ := hsame X hX _ (hwk i i0 i1) hd
    exact ⟨r1, by rw [r2, decide_eq_true_eq]⟩)
  refine CallP_mono hcl ?_
  intro r Z hz
  obtain ⟨z1, z2⟩ := hz
  refine ⟨_, z1, ?_⟩
  have hZ172 : Z 172 = im 172 := z2 172 (by omega)
  have hIZ : Inv gGd Z := act_stay hI (fun p hp => z2 p (by omega)) (by rw [z2 163 (by omega)]; exact hI.2.2.1)
  have hDZ : DK (Z 176) := hIZ.2.2.2.2
  have hMU : MU (Z 172) := by rw [hZ172]; exact g.1.2.1
  have hps : psM (leX Z) 172 = im 172 ∧ psM (leX Z) 176 = Z 176 := by rw [leX_172.1, leX_172.2]; exact ⟨hZ172, rfl⟩
  have hre := c_blameM (d := 93) (im := Z) (dv := dv) (B := fun e => decide (gt (run2 (rmM (trl im) e) 120).1.1 dv 3 = 1)) hMU (fun hep => by
    rw [hZ172] at hep
    exact (pow_on (rm_no (trl_X hI hz0)) hps.1 (by rw [hps.2]; exact hDZ) (th_rg hep.1)).2.1) (fun hep X hX i i0 i1 => by
    rw [hZ172] at hep
    have hFi := leW_in hMU i i0 i1
    rw [hZ172] at hFi
    refine ⟨th_rg hFi.1, fun hne => ?_⟩
    have hG := (rm_ep (trl_X hI hz0) hFi).1
    have hG2 : GdT gGd (rmM (trl im) ((leW Z).2 i)) 120 (tyM X ((leW Z).2 i) 172) := by
      refine GdT_of gGd_ok hG (fun _ _ _ => rfl) (fun j j0 j1 => ?_)
      unfold tyM
      rw [setc_at]
      by_cases q : j = 23 * (leW Z).2 i + 0
      · rw [q, ups_at, ups_at]
      · rw [ups_ne _ _ q, ups_ne _ _ q]
        unfold cb2 cpM2
        rw [if_pos ⟨j0, j1⟩, hX.2.2.1 j j0 j1, hZ172]
    have hD2 : DK (tyM X ((leW Z).2 i) 176) := by
      unfold tyM
      rw [setc_ne _ _ (by omega)]
      exact hX.2.2.2.2.2 hDZ
    obtain ⟨-, r2, r3⟩ := pow_on hG2 rfl hD2 (th_rg hep.1)
    exact ⟨r2, by rw [r3, decide_eq_true_eq]⟩)
  refine CallP_mono hre ?_
  intro r' Z' hz'
  obtain ⟨y1, y2⟩ := hz'
  refine ⟨?_, AgE_Inv hIZ y2⟩
  rw [y1]
  congr 2
  rw [hZ172]
  by_cases c1 : epM (im 172) dv
  · rw [if_pos c1, if_pos ((sc_ep hC).mpr c1)]
    have hd := th_rg c1.1
    obtain ⟨-, -, r3⟩ := pow_on (rm_no (trl_X hI hz0)) hps.1 (by rw [hps.2]; exact hDZ) hd
    have e1 : ∀ m : Nat, blS (im (nowT (im 1 1) + 1)) (im (nowT (im 1 1) + 3)) (im (nowT (im 1 1)) 4) dv (fun e => decide (gt (run2 (rmM (trl im) e) 120).1.1 dv 3 = 1)) (m + 1) (-1) = if gt (run2 (rmM (trl im) (-1)) 120).1.1 dv 3 = 1 then -1 else blS (im (nowT (im 1 1) + 1)) (im (nowT (im 1 1) + 3)) (im (nowT (im 1 1)) 4) dv (fun e => decide (gt (run2 (rmM (trl im) e) 120).1.1 dv 3 = 1)) m 0 := fun m => by
      have ew : wka (im (nowT (im 1 1) + 3)) (im (nowT (im 1 1)) 4) (-1) = -1 := by
        unfold wka
        rw [if_neg (by omega)]
      simp only [blS]
      rw [if_neg (by omega), ew]
      by_cases q : gt (run2 (rmM (trl im) (-1)) 120).1.1 dv 3 = 1
      · rw [if_pos (decide_eq_true q), if_pos q]
      · rw [if_neg (by rw [decide_eq_false q]; decide), if_neg q]
        rfl
    rw [e1]
    by_cases c2 : gt (run2 (rmM (trl im) (-1)) 120).1.1 dv 3 = 1
    · rw [if_pos (r3.mpr c2), if_pos c2]
    · rw [if_neg (fun s => c2 (r3.mp s)), if_neg c2]
      obtain ⟨l1, l2⟩ := le_list hZ172 hs hF
      rw [bm_fs, bl_fs hC hF _ 0 (Int.le_refl _) (by have := hF.1.1; omega)]
      have e2 : (rgL 0 (leW Z).1.toNat).map (leW Z).2 = (lsO (im (nowT (im 1 1) + 3)) (im (nowT (im 1 1)) 4)).filter (fun e => decide (im 172 (23 * e + 1) = 0)) := l1
      rw [e2, fsL_filter]
      rfl
  · rw [if_neg c1, if_neg (fun s => c1 ((sc_ep hC).mp s))]
end GD0
