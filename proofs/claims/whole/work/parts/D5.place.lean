/-! THE STEP place -/
section DF
variable {im X Y Z : zM} {c c' c0 s sp A B w w' T W Am : Int → Int} {e f a b x y d k m n u un st bg en bu v sz ad dv nt i t o fi la : Int} {z z0 M L : zSS} {p q r : Int → Bool}
/-- the class's cells when dv's own places may have been tried -/
def Dy (A c0 : Int → Int) (dv : Int) (c : Int → Int) : Prop := ∀ e f : Int, ¬ (e = dv ∧ 15 ≤ f ∧ f < 15 + A (23 * dv + 5)) → gt c e f = gt c0 e f
theorem Dy_Kc (hM : MG A) (hd : epM A dv ∧ ¬ onM A dv) (h : Dy A c0 dv c) : KcR A c c0 k := by
  have h5 := MG_many hM (th_rg hd.1.1)
  refine ⟨fun e f hf => h e f (by omega), fun t t0 t1 ho _ => h _ _ (fun q => hd.2 (by rw [← q.1]; exact ho))⟩
theorem se_dy (hR : RC A c0 w n a dv sp) (h : Dy A c0 dv c) {W : Int → Int} : SeR A c0 a dv 0 c W A := by
  obtain ⟨g, hc, hC, hF, ha, hd, hsp⟩ := id hR
  have hr := th_rg hd.1.1
  have h5 := MG_many g.1.1 hr
  refine ⟨Dy_Kc g.1.1 hd h, fun b b0 b1 b2 => ?_, fun t t0 t1 ht hb hdt => ?_, fun j _ => rfl, fun t t0 t1 hn => h _ _ (fun q => ?_), fun k' k0 k1 => by omega⟩
  · have := ((g.1.1 dv hr.1 hr.2).2.2.2.2.2.1 b b0 (by omega)).1
    omega
  · have d1 : deM t = t / 3 := if_pos t1
    rw [h _ _ (fun q => hdt q.1)]
    have := ((sc_d hc ht).2.2.2.2.2.2.2.1 (t % 3) (by omega) hb).2.2
    rw [this]
    unfold clT
    rw [d1]
  · have hk := ((g.1.1 dv hr.1 hr.2).2.2.2.2.2.1 (t % 3) (by omega) (by omega)).1
    exact hn (A (23 * dv + (6 + t % 3))) hk.1 (by omega) (Or.inr ⟨⟨t0, t1⟩, q.1, by omega, rfl⟩)
theorem seat_keep0 (hR : RC A c0 w n a dv sp) : ∀ (m : Nat) (k mv : Int) (P : zPl), 0 ≤ k → k + m = 2 → Dy A c0 dv P.1 → Dy A c0 dv (seS w sp n dv a 0 m k mv P).2.1
  | 0, _, _, _, _, _, h => h
  | m + 1, k, mv, P, k0, k1, h => by
    obtain ⟨g, hc, hC, hF, ha, hd, hsp⟩ := id hR
    have hr := th_rg hd.1.1
    have h5 := MG_many g.1.1 hr
    have hk : 0 ≤ k ∧ k < 2 := by omega
    have hK : KcR A P.1 c0 k := Dy_Kc g.1.1 hd h
    have e4 : ((0 : Int) + 1).toNat = 1 := rfl
    simp only [seS]
    rw [e4]
    split
    · exact seat_keep0 hR m (k + 1) mv P (by omega) (by omega) h
    · split
      · obtain ⟨f1, f2⟩ := kind_start hR hk (P := P) hK (fun _ => 0) (fun _ => -1) (fun _ => 0) (fun b _ _ _ => by omega)
        generalize flS sp dv a k 1 0 (tkP w n a k P) = F at *
        rcases f2 with ⟨q1, -⟩ | ⟨q1, -, nm, τM, R, x1, x2, x3, x6⟩
        · rw [if_neg (show ¬ F.1 = 1 by omega)]
          show Dy A c0 dv F.2.1
          rw [f1]
          exact h
        · rw [if_pos q1]
          have hK' : KcR A F.2.1 c0 k := by rw [f1]; exact hK
          obtain ⟨s1, s2, s3, s4, s5, s6, s7⟩ := set_kind hR hk hK' x1 x2 x3 x6
          refine seat_keep0 hR m (k + 1) _ (seP dv F.2) (by omega) (by omega) (fun e f hef => ?_)
          show gt (stS F.2.2.2.2.2.1 dv F.2.1).2 e f = gt c0 e f
          have hb : gt F.2.1 e f = gt c0 e f := by
            rw [f1]
            exact h e f hef
          by_cases hf : f < 15 ∨ 17 < f
          · rw [s4 e f hf, hb]
          · by_cases he : 0 ≤ e ∧ e < 20
            · obtain ⟨d1, d2, d3, d4⟩ := de_ap he.1 he.2 (show 0 ≤ f - 15 by omega) (show f - 15 < 3 by omega)
              have := s3 (3 * e + (f - 15)) (by omega) d4 (fun q => by
                rcases (mem_unL hR).mp q with ⟨b, b0, b1, b2, hb'⟩ | ⟨i, i0, i1, -⟩
                · exact hef ⟨by omega, by omega, by omega⟩
                · omega)
              rw [d1, d3, show 15 + (f - 15) = f by omega] at this
              rw [this, hb]
            · rw [gt_out he, gt_out he]
      · exact h
theorem dp_cells (h : ∀ e, gt c e 1 = gt c0 e 1) : ∀ (n : Nat) (a : Int), dpf c n a = dpf c0 n a
  | 0, _ => rfl
  | n + 1, a => by
    simp only [dpf, h]
    rw [dp_cells h n]
theorem pt_eq (g : gGd A) (hc : SimC c0 A) (hd : epM A dv ∧ ¬ onM A dv) (ha : a = -1 ∨ onBr A a) (h : Dy A c0 dv c) : ptB c dv a ↔ haM A dv a := by
  have hS := gT_S g.1
  have ef : ∀ sl, ff (plgB c a sl) 20 0 = ff (isM A a sl) 20 0 := fun sl => ff_congr 20 0 (fun e e0 e1 => by
    have : plgB c a sl e = plgB c0 a sl e := by
      unfold plgB
      rw [h e 0 (by omega), h e 1 (by omega), h e 2 (by omega)]
    rw [this]
    exact sim_plg hc)
  have hlv : dpf c 5 a = lbM A a := by
    rw [dp_cells (fun e => h e 1 (by omega)), dp_eq (SimW_of hc) hS.2.1 5 a (ha.imp id (fun r => r.1.1)), lb_eq (ha.imp id (fun r => r.1.1.1))]
  have hab : a = -1 ∨ gt c a 0 = 2 := ha.imp id (fun r => by
    rw [h a 0 (by omega)]
    exact (sc_br hc).mpr ⟨r.1.1, r.2⟩)
  have e1 : gt c dv 1 = A (23 * dv + 2) := by
    rw [h dv 1 (by omega)]
    exact sc_at hc hd.1.1
  unfold ptB haM
  rw [e1]
  refine or_congr Iff.rfl ?_
  have hnc := fun sl => ff_cases (isM A a sl) 20 0
  by_cases q : lbM A a ≤ 4
  · have : ff (tkB c a) 8 0 = ff (slB A a) 8 0 := ff_congr 8 0 (fun sl s0 s1 => by
      unfold tkB slB
      refine decide_eq_decide.mpr ?_
      rw [ef, hlv]
      constructor
      · rintro ⟨q1, q2, q3, q4, q5⟩
        omega
      · intro q1
        have := hnc sl
        refine ⟨hab, s0, by omega, by omega, q⟩)
    rw [this]
    exact ⟨fun r => ⟨q, r⟩, fun r => r.2⟩
  · have : ff (tkB c a) 8 0 = -1 := ff_neg 8 0 (fun sl s0 s1 => by
      unfold tkB
      refine decide_eq_false (fun r => ?_)
      rw [hlv] at r
      exact q r.2.2.2.2)
    rw [this]
    exact ⟨fun r => absurd rfl r, fun r => absurd r.1 q⟩
/-- one bus tried -/
theorem fs_both (hT : GdT gGd X 120 A) (hd : epM A dv ∧ ¬ onM A dv) (ha : a = -1 ∨ onBr A a) {P : zPl} (hD : Dy A (X 121) dv P.1) (hP : TG P.1 ∧ ChB P.2.2.2.2.2) (y : (Int → Int) × (Int → Int)) : ((fsS (X 123) (X 122) (X 120 4) dv a P).1 = if haM A dv a ∧ (fiM A y.1 y.2 dv (bfM a)).1 = 1 then 1 else 0) ∧ Dy A (X 121) dv (fsS (X 123) (X 122) (X 120 4) dv a P).2.1 ∧ TG (fsS (X 123) (X 122) (X 120 4) dv a P).2.1 ∧ ChB (fsS (X 123) (X 122) (X 120 4) dv a P).2.2.2.2.2.2 := by
  have g := hT.2.1
  have t1 : SimC (X 121) A := hT.1.1
  have hF := TrI_F (gT_S g.1) hT.1
  have hR : RC A (X 121) (X 123) (X 120 4) a dv (X 122) := ⟨g, t1, hT.2.2, hF, ha, hd, hT.1.2.1⟩
  have h5 := MG_many g.1.1 (th_rg hd.1.1)
  have hb : ∀ k : Int, 0 ≤ k → k < 2 → BuOK P.1 (X 122) a k := fun k k0 k1 => BuOK_keep (buOK_now t1 g hT.1.2.1 ha ⟨k0, k1⟩) (hD a _ (by omega)) (hD a _ (by omega))
  obtain ⟨-, -, c1, c2, -⟩ := c_fits (d := 0) (X := X) (P := P) (dv := dv) (a := a) (Q := fun _ _ => True) hF.1.2 hP.1 hP.2 hb
  have hs := seat_start hR 2 0 0 P (y.1, cwW y.2) (Int.le_refl _) (by omega) (Int.le_refl _) (fun b b0 b1 _ => by
    show cwW y.2 b < 0
    unfold cwW
    rw [if_pos (by omega)]
    omega) (se_dy hR hD)
  have hf : fiM A y.1 y.2 dv (bfM a) = fiK A dv (bfM a) 2 0 (y.1, cwW y.2) := rfl
  rw [← hf] at hs
  have hk := seat_keep0 hR 2 0 0 P (Int.le_refl _) (by omega) hD
  have hpt := pt_eq g t1 hd ha hD
  refine ⟨?_, ?_, c1, c2⟩
  · unfold fsS
    by_cases q : haM A dv a
    · rw [if_pos (hpt.mpr q)]
      rcases hs with ⟨q1, q2⟩ | ⟨q1, q2, -⟩
      · rw [if_pos q1, if_neg (fun r => by have := r.2; omega)]
      · rw [if_neg (show ¬ (seS (X 123) (X 122) (X 120 4) dv a 0 2 0 0 P).1 = -1 by omega), if_pos ⟨q, q2⟩]
    · rw [if_neg (fun r => q (hpt.mp r)), if_neg (fun r => q r.1)]
  · unfold fsS
    split
    · exact hk
    · exact hD
theorem pl_both (hT : GdT gGd X 120 A) (hd : epM A dv ∧ ¬ onM A dv) {o' : Int → Int} (ho : ∀ i : Int, 0 ≤ i → i < X 120 4 → X 123 i = o' i) : ∀ (m : Nat) (i : Int) (P : zPl) (y : (Int → Int) × (Int → Int)), 0 ≤ i → i + m = X 120 4 → Dy A (X 121) dv P.1 → TG P.1 ∧ ChB P.2.2.2.2.2 → (plS (X 123) (X 122) (X 120 4) dv m i P).1 = (plN A dv o' m i y).1 ∧ ChB (plS (X 123) (X 122) (X 120 4) dv m i P).2.2.2.2.2.2
  | 0, i, P, y, i0, i1, hD, hP => ⟨rfl, hP.2⟩
  | m + 1, i, P, y, i0, i1, hD, hP => by
    have g := hT.2.1
    have t1 : SimC (X 121) A := hT.1.1
    have hF := TrI_F (gT_S g.1) hT.1
    have h5 := MG_many g.1.1 (th_rg hd.1.1)
    have hn := hF.1.2
    have ew : wka (X 123) (X 120 4) i = o' i := by
      unfold wka
      rw [if_pos ⟨i0, by omega, by omega⟩]
      exact ho i i0 (by omega)
    have eP : plS (X 123) (X 122) (X 120 4) dv (m + 1) i P = if gt P.1 (wka (X 123) (X 120 4) i) 0 = 2 ∧ gt P.1 (wka (X 123) (X 120 4) i) 3 = 1 then (if (fsS (X 123) (X 122) (X 120 4) dv (wka (X 123) (X 120 4) i) P).1 = 1 then (wka (X 123) (X 120 4) i, (fsS (X 123) (X 122) (X 120 4) dv (wka (X 123) (X 120 4) i) P).2) else plS (X 123) (X 122) (X 120 4) dv m (i + 1) (fsS (X 123) (X 122) (X 120 4) dv (wka (X 123) (X 120 4) i) P).2) else plS (X 123) (X 122) (X 120 4) dv m (i + 1) P := rfl
    have eN : plN A dv o' (m + 1) i y = if A (23 * o' i + 1) = 1 ∧ onM A (o' i) ∧ haM A dv (o' i) then (if (fiM A y.1 y.2 dv (o' i)).1 = 1 then (o' i, (fiM A y.1 y.2 dv (o' i)).2) else plN A dv o' m (i + 1) (fiM A y.1 y.2 dv (o' i)).2) else plN A dv o' m (i + 1) y := rfl
    rw [eP, eN, ew, hD _ 0 (by omega), hD _ 3 (by omega)]
    generalize o' i = b at *
    by_cases c1 : onBr A b
    · rw [if_pos ((sc_onBr t1).mpr c1)]
      obtain ⟨f1, f2, f3, f4⟩ := fs_both hT hd (Or.inr c1) hD hP y
      have ebf : bfM b = b := by
        unfold bfM
        rw [if_neg (by have := c1.1.1.1; omega)]
      rw [ebf] at f1
      by_cases c2 : haM A dv b
      · rw [if_pos (show A (23 * b + 1) = 1 ∧ onM A b ∧ haM A dv b from ⟨c1.2, c1.1, c2⟩)]
        by_cases c3 : (fiM A y.1 y.2 dv b).1 = 1
        · rw [if_pos ⟨c2, c3⟩] at f1
          rw [if_pos f1, if_pos c3]
          exact ⟨rfl, f4⟩
        · rw [if_neg (fun r => c3 r.2)] at f1
          rw [if_neg (show ¬ (fsS (X 123) (X 122) (X 120 4) dv b P).1 = 1 by omega), if_neg c3]
          exact pl_both hT hd ho m (i + 1) _ _ (by omega) (by omega) f2 ⟨f3, f4⟩
      · rw [if_neg (fun r => c2 r.1)] at f1
        rw [if_neg (show ¬ (A (23 * b + 1) = 1 ∧ onM A b ∧ haM A dv b) from fun r => c2 r.2.2), if_neg (show ¬ (fsS (X 123) (X 122) (X 120 4) dv b P).1 = 1 by omega)]
        exact pl_both hT hd ho m (i + 1) _ _ (by omega) (by omega) f2 ⟨f3, f4⟩
    · rw [if_neg (fun r => c1 ((sc_onBr t1).mp r)), if_neg (show ¬ (A (23 * b + 1) = 1 ∧ onM A b ∧ haM A dv b) from fun r => c1 ⟨r.2.1, r.1⟩)]
      exact pl_both hT hd ho m (i + 1) P y (by omega) (by omega) hD hP
theorem pl_ans (hT : GdT gGd X 120 A) (hch : ChB (X 163)) (hY : Y 172 = A) : (plR X dv).1 = (plU Y dv).1 ∧ ChB (plR X dv).2.2.2.2.2.2 := by
  have g := hT.2.1
  have t1 : SimC (X 121) A := hT.1.1
  have hF := TrI_F (gT_S g.1) hT.1
  unfold plR plU
  rw [hY]
  by_cases c1 : epM A dv ∧ ¬ onM A dv
  · rw [if_pos (show gt (X 121) dv 0 = 1 ∧ gt (X 121) dv 3 ≠ 1 from ⟨(sc_ep t1).mpr c1.1, fun q => c1.2 ((sc_on t1).mp q)⟩), if_pos c1]
    have hD0 : Dy A (X 121) dv (plG X 120).1 := fun _ _ _ => rfl
    have hP0 : TG (plG X 120).1 ∧ ChB (plG X 120).2.2.2.2.2 := ⟨(PlI_now hT).1, hch⟩
    obtain ⟨f1, f2, f3, f4⟩ := fs_both hT c1 (Or.inl rfl) hD0 hP0 (Y 181, Y 182)
    have e20 : bfM (-1) = 20 := rfl
    rw [e20] at f1
    dsimp only at f1
    have key : ∀ (Z : zM), Z 172 = A → ∀ P : zPl, Dy A (X 121) dv P.1 → TG P.1 ∧ ChB P.2.2.2.2.2 → (plS (X 123) (X 122) (X 120 4) dv (X 120 4).toNat 0 P).1 = (plT Z dv).1 ∧ ChB (plS (X 123) (X 122) (X 120 4) dv (X 120 4).toNat 0 P).2.2.2.2.2.2 := fun Z hZ P hD hP => by
      have hw : (waM Z).2 = X 120 4 ∧ ∀ i : Int, 0 ≤ i → i < X 120 4 → X 123 i = (waM Z).1 i := by
        obtain ⟨w1, w2⟩ := wa_eq (im := Z)
        rw [hZ] at w1 w2
        have hq := hT.1.2.2.2.2
        refine ⟨by rw [w1]; exact hq.1.symm, fun i i0 i1 => ?_⟩
        have h1 : X 123 i = (wkA A).1 i := hq.2 i i0 (by have := hq.1; omega)
        rw [h1, w2 i i0 (by have := hq.1; omega)]
      have := pl_both hT c1 hw.2 (X 120 4).toNat 0 P (Z 181, Z 182) (Int.le_refl _) (by have := hF.1.1; omega) hD hP
      refine ⟨?_, this.2⟩
      rw [this.1]
      unfold plT
      rw [hZ, hw.1]
    by_cases c2 : haM A dv (-1)
    · rw [if_pos c2]
      by_cases c3 : (fiM A (Y 181) (Y 182) dv 20).1 = 1
      · rw [if_pos ⟨c2, c3⟩] at f1
        rw [if_pos f1, if_pos c3]
        exact ⟨rfl, f4⟩
      · rw [if_neg (fun r => c3 r.2)] at f1
        rw [if_neg (show ¬ (fsS (X 123) (X 122) (X 120 4) dv (-1) (plG X 120)).1 = 1 by omega), if_neg c3]
        exact key _ (by rw [fim_o (by omega) (by omega)]; exact hY) _ f2 ⟨f3, f4⟩
    · rw [if_neg (fun r => c2 r.1)] at f1
      rw [if_neg c2, if_neg (show ¬ (fsS (X 123) (X 122) (X 120 4) dv (-1) (plG X 120)).1 = 1 by omega)]
      exact key _ hY _ f2 ⟨f3, f4⟩
  · rw [if_neg (show ¬ (gt (X 121) dv 0 = 1 ∧ gt (X 121) dv 3 ≠ 1) from fun q => c1 ⟨(sc_ep t1).mp q.1, fun r => q.2 ((sc_on t1).mpr r)⟩), if_neg c1]
    exact ⟨rfl, hch⟩
theorem pl_scr : (∀ p : Nat, p < 171 ∨ 190 ≤ p → (plU Y dv).2 p = Y p) ∧ ((plU Y dv).2 171 32 = Y 171 32 ∧ (plU Y dv).2 171 33 = Y 171 33) ∧ (plU Y dv).2 172 = Y 172 ∧ (plU Y dv).2 176 = Y 176 ∧ (plU Y dv).2 184 = Y 184 := by
  have hwk : ∀ (Z : zM) (y : (Int → Int) × Int), (∀ p : Nat, p ≠ 171 → p ≠ 173 → wkm Z y p = Z p) ∧ ∀ j : Int, j ≠ 2 → wkm Z y 171 j = Z 171 j := fun Z y => by
    refine ⟨fun p h1 h2 => ?_, fun j hj => ?_⟩
    · unfold wkm
      rw [setc_ne _ _ h1, setc_ne _ _ h2]
    · unfold wkm
      rw [setc_at, ups_ne _ _ hj]
  have hT : ∀ Z : zM, (∀ p : Nat, p < 171 ∨ 190 ≤ p → (plT Z dv).2 p = Z p) ∧ ((plT Z dv).2 171 32 = Z 171 32 ∧ (plT Z dv).2 171 33 = Z 171 33) ∧ (plT Z dv).2 172 = Z 172 ∧ (plT Z dv).2 176 = Z 176 ∧ (plT Z dv).2 184 = Z 184 := fun Z => by
    obtain ⟨w1, w2⟩ := hwk Z (waM Z)
    unfold plT
    dsimp only
    refine ⟨fun p hp => ?_, ⟨?_, ?_⟩, ?_, ?_, ?_⟩
    · rw [fim_o (by omega) (by omega), w1 p (by omega) (by omega)]
    · rw [fim_o (by omega) (by omega), w2 32 (by omega)]
    · rw [fim_o (by omega) (by omega), w2 33 (by omega)]
    · rw [fim_o (by omega) (by omega), w1 _ (by omega) (by omega)]
    · rw [fim_o (by omega) (by omega), w1 _ (by omega) (by omega)]
    · rw [fim_o (by omega) (by omega), w1 _ (by omega) (by omega)]
  unfold plU
  split
  · split
    · split
      · exact fim_scr
      · obtain ⟨a1, ⟨a2, a3⟩, a4, a5, a6⟩ := hT (fim Y (fiM (Y 172) (Y 181) (Y 182) dv 20).2)
        obtain ⟨b1, ⟨b2, b3⟩, b4, b5, b6⟩ := fim_scr (Y := Y) (y := (fiM (Y 172) (Y 181) (Y 182) dv 20).2)
        exact ⟨fun p hp => (a1 p hp).trans (b1 p hp), ⟨a2.trans b2, a3.trans b3⟩, a4.trans b4, a5.trans b5, a6.trans b6⟩
    · exact hT Y
  · exact ⟨fun _ _ => rfl, ⟨rfl, rfl⟩, rfl, rfl, rfl⟩
theorem sp_place : Sp1 99 (Inv gGd) 123 250 := by
  intro im hI dv _
  have hh := hI.1.1
  have hT := trl_GdT hI
  have g := hT.2.1
  have hF := TrI_F (gT_S g.1) hT.1
  have t1 : SimC (trl im 121) (im 172) := hT.1.1
  have hX : ∀ P : zPl, ∀ p : Nat, p < 120 ∨ 170 < p → plm (trl im) 120 P p = im p := fun P p hp => by
    rw [plm_o (by omega) (by omega), trl_ne (by omega)]
  have h163 : ChB (trl im 163) := by
    rw [trl_ne (by omega)]
    exact hI.2.2.1
  have hz : ∀ e, epM (im 172) e → MZ (im 172) e := fun e he x x0 x1 => by
    obtain ⟨m, m1, m2⟩ := g.1.2.2.2.2.2.2.2.1 e x he.1 x0 x1
    rw [m2]
    exact (pow_le8 m m1).1
  have hw : ∀ e, (e = 20 ∨ (onM (im 172) e ∧ im 172 (23 * e + 1) = 1)) → FtP (im 172) e := fun e he => by
    rcases he with q | q
    · rw [q]
      exact ft_now (a := -1) g (Or.inl rfl)
    · have := ft_now (a := e) g (Or.inr q)
      unfold bfM at this
      rw [if_neg (by have := q.1.1.1; omega)] at this
      exact this
  refine (c_place (d := 90) hh hF.1.2 (PlI_now hT).1 hI.2.2.1 (fun a ha k k0 k1 => ?_)).mpr ?_
  · rw [sc_onBr t1] at ha
    exact buOK_now t1 g hT.1.2.1 ha ⟨k0, k1⟩
  · have hb := fun (Y : zM) (hY : Y 172 = im 172) => pl_ans (dv := dv) hT h163 hY
    have hch := (hb im rfl).2
    generalize plR (trl im) dv = r at *
    have e172 : plm (trl im) 120 r.2 172 = im 172 := hX _ _ (by omega)
    have e184 : plm (trl im) 120 r.2 184 = im 184 := hX _ _ (by omega)
    have hb := (hb _ e172).1
    have hS : Inv gGd (plm (trl im) 120 r.2) := act_stay hI (hX r.2) (by rw [plm_ch]; exact hch)
    generalize plm (trl im) 120 r.2 = Y at *
    refine ⟨_, rfl, (c_placeM (d := 94) (by rw [e172]; exact g.1.2.1) (by rw [e172]; exact g.1.1) (by rw [e172]; exact hz) (by rw [e172]; exact hw)).mpr ?_⟩
    rw [hb]
    obtain ⟨s1, s2, s3, s4, s5⟩ := pl_scr (Y := Y) (dv := dv)
    exact ⟨rfl, stay_scr hS s1 s2 s3 (by rw [s5, e184]; exact hI.2.2.2.1) s4⟩
end DF
