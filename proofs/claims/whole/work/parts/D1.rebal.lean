/-! THE STEPS rebalance and moves -/
section DB
variable {im X Y Z : zM} {c c' c0 s sp A B w w' T W Am : Int → Int} {e f a b x y d k m n u un st bg en bu v sz ad dv nt i t o : Int} {z z0 M L : zSS} {p q r : Int → Bool}
theorem bus_par (hM : MG A) (ht : thM A dv) : buM A dv = bfM (A (23 * dv + 2)) ∧ (buOn A (buM A dv) ↔ A (23 * dv + 2) = -1 ∨ onBr A (A (23 * dv + 2))) := by
  have hat := MG_at hM (dv := dv) (th_rg ht)
  unfold buM bfM
  by_cases q : A (23 * dv + 2) < 0
  · rw [if_pos q, if_pos (by omega)]
    exact ⟨rfl, fun _ => Or.inl (by omega), fun _ => Or.inl rfl⟩
  · rw [if_neg q, if_neg (by omega)]
    refine ⟨rfl, fun h => Or.inr (h.resolve_left (by omega)), fun h => ?_⟩
    rcases h with h | h
    · omega
    · exact Or.inr h
theorem PlI_now (hT : GdT gGd X 120 A) : PlI (X 121) (X 122) := by
  obtain ⟨⟨t1, t2, t3, t4, t5, t6⟩, g, hC⟩ := hT
  have t1 : SimC (X 121) A := t1
  have hC : Cls (X 121) := hC
  have t2 : ∀ k : Int, 0 ≤ k → k < 2 → X 122 k = A (460 + k) := t2
  have hM := g.1.1
  refine ⟨⟨Cls_TB hC, fun e e0 e1 => ?_⟩, fun e e0 e1 => ?_⟩
  · obtain ⟨c1, c2, c3, c4, c5, c6, c7⟩ := hC e e0 e1
    refine ⟨fun x x0 x1 => ?_, fun k k0 k1 => ?_⟩
    · have := c6 x x0 (by omega)
      omega
    · have := c7 k k0 k1
      omega
  · obtain ⟨c1, c2, c3, c4, c5, c6, c7⟩ := hC e e0 e1
    refine ⟨fun _ => by omega, fun h0 hb => ?_⟩
    have ht := (sc_th t1).mp h0
    rw [sc_at t1 ht, sc_onBr t1] at hb
    rw [sc_at t1 ht]
    refine ⟨?_, fun k k0 k1 => buOK_now t1 g t2 hb ⟨k0, k1⟩⟩
    rw [fst_now t1 hb]
    unfold fsM bfM
    rcases hb with q | q
    · rw [if_pos q, if_pos rfl]
      omega
    · have hr := th_rg q.1.1
      rw [if_neg (by omega), if_neg (by omega)]
      have := (hM _ hr.1 hr.2).2.2.2.2.2.2.2.2.1
      omega
theorem RC_now (hT : GdT gGd X 120 A) (ha : A (23 * dv + 2) = -1 ∨ onBr A (A (23 * dv + 2))) (hd : epM A dv ∧ ¬ onM A dv) : RC A (X 121) (X 123) (X 120 4) (A (23 * dv + 2)) dv (X 122) := ⟨hT.2.1, hT.1.1, hT.2.2, TrI_F (gT_S hT.2.1.1) hT.1, ha, hd, hT.1.2.1⟩
theorem Am_MG (hM : MG A) (hd : epM A dv ∧ ¬ onM A dv) (h : SeR A c0 a dv 2 c W Am) : MG Am := by
  have hB := sb_StB hM hd h
  obtain ⟨h1, h2, h3, h4, h5, h6⟩ := h
  have hr := th_rg hd.1.1
  refine MG_frame hM (fun e e0 e1 => ?_)
  by_cases hq : onM A e ∧ A (23 * e + 2) = a
  · right
    have hrow : ∀ f : Int, 0 ≤ f → f < 23 → f < 12 ∨ 14 < f → Am (23 * e + f) = A (23 * e + f) := fun f f0 f1 ff => h4 _ (fun t t0 t1 _ _ _ q => by
      unfold clT at q
      omega)
    obtain ⟨m1, m2, m3, m4, m5, m6, m7, m8, m9, m10, m11⟩ := hM e e0 e1
    unfold MGr
    rw [hrow 1 (by omega) (by omega) (by omega), hrow 2 (by omega) (by omega) (by omega), hrow 3 (by omega) (by omega) (by omega), hrow 4 (by omega) (by omega) (by omega), hrow 5 (by omega) (by omega) (by omega), hrow 15 (by omega) (by omega) (by omega), hrow 16 (by omega) (by omega) (by omega), hrow 17 (by omega) (by omega) (by omega), hrow 18 (by omega) (by omega) (by omega)]
    refine ⟨m1, m2, m3, m4, m5, fun x x0 x1 => ?_, m7, m8, m9, m10, fun k k0 k1 => ?_⟩
    · rw [hrow (6 + x) (by omega) (by omega) (by omega), hrow (9 + x) (by omega) (by omega) (by omega)]
      refine ⟨(m6 x x0 x1).1, (m6 x x0 x1).2.1, ?_⟩
      obtain ⟨d1, d2, d3, d4⟩ := de_ap e0 e1 x0 x1
      by_cases r : x < A (23 * e + 5)
      · have hne : e ≠ dv := fun s => hd.2 (by rw [← s]; exact hq.1)
        have hv := h3 (3 * e + x) (by omega) d4 (by rw [d1]; exact hq.1.1) (by rw [d1, d3]; exact r) (by rw [d1]; exact hne)
        rw [d1, d3] at hv
        have hcl : clT (3 * e + x) = 23 * e + (12 + x) := by
          unfold clT
          omega
        rw [hcl] at hv
        rw [← hv]
        have hi : InK A a dv (A (23 * e + (6 + x))) (3 * e + x) := Or.inl ⟨by omega, by omega, ⟨by rw [d1]; exact hq.1, by rw [if_pos d4, d1, d3]; exact ⟨r, rfl⟩⟩, by rw [d1]; exact hq.2⟩
        have hk := m6 x x0 x1
        have := (h6 _ hk.1.1 (by omega)).1 _ hi
        unfold posC at this
        rw [if_pos d4, d1, d3] at this
        omega
      · have : Am (23 * e + (12 + x)) = A (23 * e + (12 + x)) := h4 _ (fun t t0 t1 to tb _ q => by
          have hdt : deM t = t / 3 := if_pos t1
          unfold clT at q
          rw [hdt] at tb
          have : e = t / 3 := by omega
          rw [← this] at tb
          omega)
        rw [this]
        exact (m6 x x0 x1).2.2
    · rw [hrow (19 + k) (by omega) (by omega) (by omega), hrow (21 + k) (by omega) (by omega) (by omega)]
      exact m11 k k0 k1
  · left
    intro f f0 f1
    exact h4 _ (fun t t0 t1 to tb ta q => by
      have hdt : deM t = t / 3 := if_pos t1
      unfold clT at q
      rw [hdt] at to ta
      have : e = t / 3 := by omega
      rw [← this] at to ta
      exact hq ⟨to, ta⟩)
/-- REBALANCE: class and reference -/
theorem reb_both (hT : GdT gGd X 120 A) (hY : Y 172 = A) : ((mkS (X 123) (X 122) (X 120 4) dv (plG X 120)).1 < 0 ∧ (tbR Y dv).1 = (mkS (X 123) (X 122) (X 120 4) dv (plG X 120)).1) ∨ (0 ≤ (mkS (X 123) (X 122) (X 120 4) dv (plG X 120)).1 ∧ (tbR Y dv).1 = (mkS (X 123) (X 122) (X 120 4) dv (plG X 120)).1 ∧ MG (Amv A (tbY Y dv).2.1) ∧ GdT gGd (plm X 120 (mkS (X 123) (X 122) (X 120 4) dv (plG X 120)).2) 120 (reA Y dv)) := by
  have t1 : SimC (X 121) A := hT.1.1
  have hM := hT.2.1.1.1
  have hP : (plG X 120).1 = X 121 := rfl
  unfold mkS
  rw [hP]
  by_cases c1 : epM A dv ∧ ¬ onM A dv
  · rw [if_neg (show ¬ (¬ gt (X 121) dv 0 = 1 ∨ gt (X 121) dv 3 = 1) from fun q => q.elim (fun q => q ((sc_ep t1).mpr c1.1)) (fun q => c1.2 ((sc_on t1).mp q)))]
    have n1 : ¬ (¬ epM (Y 172) dv ∨ onM (Y 172) dv) := by
      rw [hY]
      exact fun q => q.elim (fun q => q c1.1) c1.2
    have hbp := bus_par hM c1.1.1
    rw [sc_at t1 c1.1.1]
    have hiff : (A (23 * dv + 2) = -1 ∨ (gt (X 121) (A (23 * dv + 2)) 0 = 2 ∧ gt (X 121) (A (23 * dv + 2)) 3 = 1)) ↔ (A (23 * dv + 2) = -1 ∨ onBr A (A (23 * dv + 2))) := or_congr Iff.rfl (sc_onBr t1)
    by_cases c2 : A (23 * dv + 2) = -1 ∨ onBr A (A (23 * dv + 2))
    · rw [if_neg (show ¬ ¬ (A (23 * dv + 2) = -1 ∨ (gt (X 121) (A (23 * dv + 2)) 0 = 2 ∧ gt (X 121) (A (23 * dv + 2)) 3 = 1)) from fun q => q (hiff.mpr c2))]
      have n2 : ¬ ¬ buOn (Y 172) (buM (Y 172) dv) := by
        rw [hY]
        exact fun q => q (hbp.2.mpr c2)
      have eT : tbR Y dv = ((tbY Y dv).1, mrm Y (tbY Y dv).2.1 (tbY Y dv).2.2) := by
        unfold tbR
        rw [if_neg n1, if_neg n2]
      have hR := RC_now hT c2 c1
      have hs := seat_reb hR 2 0 0 (plG X 120) (0, (Y 186, Y 187, 0), rW (rbg Y) (cwW (Y 182))) (Int.le_refl _) (by omega) rfl (Int.le_refl _) (Int.le_refl _) (se_0 hR)
      have ey : tbY Y dv = tbK A dv (bfM (A (23 * dv + 2))) 2 0 (0, (Y 186, Y 187, 0), rW (rbg Y) (cwW (Y 182))) := by
        unfold tbY
        rw [hY, hbp.1]
      rw [← ey] at hs
      rw [eT]
      have era : reA Y dv = sbA (Amv A (tbY Y dv).2.1) (tbY Y dv).2.2.2.1 dv := by
        rw [← hY]
        rfl
      rw [era]
      generalize tbY Y dv = G at *
      generalize seS (X 123) (X 122) (X 120 4) dv (A (23 * dv + 2)) 3 2 0 0 (plG X 120) = F at *
      rcases hs with ⟨q1, q2⟩ | ⟨q1, q2, q3⟩
      · left
        rw [if_pos q1]
        exact ⟨by show (-4 : Int) < 0; omega, q2⟩
      · right
        rw [if_neg (show ¬ F.1 = -1 by omega)]
        refine ⟨q1, q2, Am_MG hM c1 q3, stb_GdT hT c1 rfl c2 q3 (fun p p0 p1 p2 => plm_o (Or.inl (by omega)) p2) ?_⟩
        exact plm_c zT_120
    · left
      rw [if_pos (show ¬ (A (23 * dv + 2) = -1 ∨ (gt (X 121) (A (23 * dv + 2)) 0 = 2 ∧ gt (X 121) (A (23 * dv + 2)) 3 = 1)) from fun q => c2 (hiff.mp q))]
      have n2 : ¬ buOn (Y 172) (buM (Y 172) dv) := by
        rw [hY]
        exact fun q => c2 (hbp.2.mp q)
      have eT : tbR Y dv = (-2, Y) := by
        unfold tbR
        rw [if_neg n1, if_pos n2]
      rw [eT]
      exact ⟨by show (-2 : Int) < 0; omega, rfl⟩
  · left
    rw [if_pos (show ¬ gt (X 121) dv 0 = 1 ∨ gt (X 121) dv 3 = 1 by
      by_cases q : epM A dv
      · exact Or.inr ((sc_on t1).mpr (Decidable.byContradiction fun r => c1 ⟨q, r⟩))
      · exact Or.inl (fun r => q ((sc_ep t1).mp r)))]
    have n1 : ¬ epM (Y 172) dv ∨ onM (Y 172) dv := by
      rw [hY]
      by_cases q : epM A dv
      · exact Or.inr (Decidable.byContradiction fun r => c1 ⟨q, r⟩)
      · exact Or.inl q
    have eT : tbR Y dv = (-1, Y) := if_pos n1
    rw [eT]
    exact ⟨by show (-1 : Int) < 0; omega, rfl⟩
theorem se_ch (hT : GdT gGd X 120 A) (hch : ChB (X 163)) {P : zPl} (hP : P.1 = X 121) (hP2 : P.2.2.2.2.2 = X 163) {most : Int} (hm : 0 ≤ most ∧ most ≤ 100) (hb : a = -1 ∨ onBr A a) : ChB (seS (X 123) (X 122) (X 120 4) dv a most 2 0 0 P).2.2.2.2.2.2 := by
  have hF := TrI_F (gT_S hT.2.1.1) hT.1
  exact (c_seat (d := 0) (im := X) (dv := dv) (a := a) (Q := fun _ _ => True) zT_120 hF.1.2 hm (by rw [hP]; exact (PlI_now hT).1) (by rw [hP2]; exact hch) (fun k k0 k1 => by
    rw [hP]
    exact buOK_now hT.1.1 hT.2.1 hT.1.2.1 hb ⟨k0, k1⟩) rfl).2.2.2.1
theorem mk_ch (hT : GdT gGd X 120 A) (hch : ChB (X 163)) : ChB (mkS (X 123) (X 122) (X 120 4) dv (plG X 120)).2.2.2.2.2.2 := by
  have t1 : SimC (X 121) A := hT.1.1
  have hP : (plG X 120).1 = X 121 := rfl
  unfold mkS
  by_cases c1 : ¬ gt (plG X 120).1 dv 0 = 1 ∨ gt (plG X 120).1 dv 3 = 1
  · rw [if_pos c1]
    exact hch
  · rw [if_neg c1]
    by_cases c2 : gt (plG X 120).1 dv 1 = -1 ∨ (gt (plG X 120).1 (gt (plG X 120).1 dv 1) 0 = 2 ∧ gt (plG X 120).1 (gt (plG X 120).1 dv 1) 3 = 1)
    · rw [if_neg (fun q => q c2)]
      rw [hP, sc_onBr t1] at c2
      have := se_ch (dv := dv) (most := 3) hT hch (P := plG X 120) hP rfl (by omega) c2
      rw [← hP] at this
      split
      · exact this
      · exact this
    · rw [if_pos c2]
      exact hch
/-- scratch of the reference doesn't matter -/
theorem keep_scr (hK : Inv gGd (setc (kaM Y) 172 B)) (h0 : ∀ p : Nat, p < 171 ∨ 190 ≤ p → Z p = Y p) (h1 : Z 171 32 = Y 171 32 ∧ Z 171 33 = Y 171 33) (h172 : Z 172 = Y 172) (h184 : ∀ j : Int, 0 ≤ j → j < 3 → 0 ≤ Z 184 j ∧ Z 184 j ≤ 100) (h176 : Z 176 = Y 176) : Inv gGd (setc (kaM Z) 172 B) := by
  have ea : kaA Z = kaA Y := by
    unfold kaA
    rw [h1.1]
  have ew : kaW Z = kaW Y := by
    unfold kaW
    rw [ea, h1.1, h172, h0 190 (by omega)]
  refine Inv_of gGd_ok hK (fun p hp => ?_) ⟨?_, ?_⟩ (fun j _ _ => ?_) (fun p hp => ?_) ⟨?_, ?_, ?_⟩
  · rw [setc_ne _ _ (by omega), setc_ne _ _ (by omega), kaM_ne (by omega) (by omega), kaM_ne (by omega) (by omega), h0 p (by omega)]
  · rw [setc_ne _ _ (by omega), setc_ne _ _ (by omega)]
    unfold kaM
    rw [setc_at, setc_at, ups_ne _ _ (by omega), ups_at, ups_ne _ _ (by omega), ups_at, ea]
  · rw [setc_ne _ _ (by omega), setc_ne _ _ (by omega)]
    unfold kaM
    rw [setc_at, setc_at, ups_at, ups_at]
  · rw [setc_at, setc_at]
  · rw [setc_ne _ _ (by omega), setc_ne _ _ (by omega)]
    by_cases q : p = 190
    · subst q
      unfold kaM
      rw [setc_ne _ _ (by omega), setc_at, setc_ne _ _ (by omega), setc_at, ew]
    · rw [kaM_ne q (by omega), kaM_ne q (by omega), h0 p (by omega)]
  · have := hK.2.2.1
    rw [setc_ne _ _ (by omega), kaM_ne (by omega) (by omega)] at this ⊢
    rw [h0 163 (by omega)]
    exact this
  · intro j j0 j1
    rw [setc_ne _ _ (by omega), kaM_ne (by omega) (by omega)]
    exact h184 j j0 j1
  · have := hK.2.2.2.2
    rw [setc_ne _ _ (by omega), kaM_ne (by omega) (by omega)] at this ⊢
    rw [h176]
    exact this
theorem stay_scr (hK : Inv gGd Y) (h0 : ∀ p : Nat, p < 171 ∨ 190 ≤ p → Z p = Y p) (h1 : Z 171 32 = Y 171 32 ∧ Z 171 33 = Y 171 33) (h172 : Z 172 = Y 172) (h184 : ∀ j : Int, 0 ≤ j → j < 3 → 0 ≤ Z 184 j ∧ Z 184 j ≤ 100) (h176 : Z 176 = Y 176) : Inv gGd Z := by
  refine Inv_of gGd_ok hK (fun p hp => h0 p (by omega)) h1 (fun j _ _ => by rw [h172]) (fun p hp => h0 p (by omega)) ⟨?_, h184, ?_⟩
  · rw [h0 163 (by omega)]
    exact hK.2.2.1
  · rw [h176]
    exact hK.2.2.2.2
theorem tb_scr : (∀ p : Nat, p < 171 ∨ 190 ≤ p → (tbR Y dv).2 p = Y p) ∧ ((tbR Y dv).2 171 32 = Y 171 32 ∧ (tbR Y dv).2 171 33 = Y 171 33) ∧ (tbR Y dv).2 172 = Y 172 ∧ (tbR Y dv).2 176 = Y 176 := by
  have key : ∀ (y : zMv) (r : zRb), (∀ p : Nat, p < 171 ∨ 190 ≤ p → mrm Y y r p = Y p) ∧ (mrm Y y r 171 32 = Y 171 32 ∧ mrm Y y r 171 33 = Y 171 33) ∧ mrm Y y r 172 = Y 172 ∧ mrm Y y r 176 = Y 176 := fun y r => by
    refine ⟨fun p hp => ?_, ⟨?_, ?_⟩, mrm_A, ?_⟩
    · unfold mrm mvm
      rw [rbm_o (by omega), setc_ne _ _ (by omega), setc_ne _ _ (by omega), setc_ne _ _ (by omega)]
    · unfold mrm mvm
      rw [rbm_f (by omega) (by omega), setc_at, ups_ne _ _ (by omega)]
    · unfold mrm mvm
      rw [rbm_f (by omega) (by omega), setc_at, ups_ne _ _ (by omega)]
    · unfold mrm mvm
      rw [rbm_o (by omega), setc_ne _ _ (by omega), setc_ne _ _ (by omega), setc_ne _ _ (by omega)]
  unfold tbR
  split
  · exact ⟨fun _ _ => rfl, ⟨rfl, rfl⟩, rfl, rfl⟩
  · split
    · exact ⟨fun _ _ => rfl, ⟨rfl, rfl⟩, rfl, rfl⟩
    · exact key _ _
theorem TbH_now (g : gGd A) (hY : Y 172 = A) (h184 : ∀ j : Int, 0 ≤ j → j < 3 → 0 ≤ Y 184 j ∧ Y 184 j ≤ 100) : TbH Y dv := by
  unfold TbH
  rw [hY]
  refine ⟨g.1.1, fun e he x x0 x1 => ?_, fun ht hb => ?_, h184⟩
  · obtain ⟨m, m1, m2⟩ := g.1.2.2.2.2.2.2.2.1 e x he x0 x1
    rw [m2]
    exact (pow_le8 m m1).1
  · have hbp := bus_par g.1.1 ht
    rw [hbp.1]
    exact ft_now g (hbp.2.mp hb)
theorem sp_rebalance : Sp1 99 (Inv gGd) 95 222 := by
  intro im hI dv _
  have hh := hI.1.1
  have hT := trl_GdT hI
  have g := hT.2.1
  have hF := TrI_F (gT_S g.1) hT.1
  have hX : ∀ P : zPl, ∀ p : Nat, p < 120 ∨ 170 < p → plm (trl im) 120 P p = im p := fun P p hp => by
    rw [plm_o (by omega) (by omega), trl_ne (by omega)]
  have h163 : ChB (trl im 163) := by
    rw [trl_ne (by omega)]
    exact hI.2.2.1
  have hch := mk_ch (dv := dv) hT h163
  refine (c_rebalance (d := 91) hh hF.1.2 (PlI_now hT) hI.2.2.1 rfl).mpr ?_
  have hb := fun (Y : zM) (hY : Y 172 = im 172) => reb_both (dv := dv) hT hY
  generalize mkS (trl im 123) (trl im 122) (trl im 120 4) dv (plG (trl im) 120) = r at *
  by_cases c : 0 ≤ r.1
  · rw [if_pos c]
    have e172 := kp172 hI (hX r.2)
    have eHM := kpHM hI (hX r.2)
    have e184 : kp (plm (trl im) 120 r.2) 184 = im 184 := by rw [kp_far hI (hX r.2 1 (by omega)) (by omega), hX _ _ (by omega)]
    have hb := hb _ e172
    have hK := fun hG => act_keep hI (hX r.2) (by rw [plm_ch]; exact hch) hG (A := reA (kp (plm (trl im) 120 r.2)) dv)
    generalize kp (plm (trl im) 120 r.2) = Y at *
    refine ⟨_, rfl, ?_⟩
    rcases hb with ⟨q1, -⟩ | ⟨q1, q2, q3, q4⟩
    · omega
    · have hTb : TbH Y dv := TbH_now g e172 (by rw [e184]; exact hI.2.2.2.1)
      refine (c_rebM (d := 91) eHM hTb (fun _ => by rw [e172]; exact q3)).mpr ?_
      rw [if_neg (by omega), q2]
      obtain ⟨s1, s2, s3, s4⟩ := tb_scr (Y := Y) (dv := dv)
      exact ⟨rfl, keep_scr (hK q4) s1 s2 s3 (c_tryReb (d := 0) hTb).2 s4⟩
  · rw [if_neg c]
    have e172 : plm (trl im) 120 r.2 172 = im 172 := hX _ _ (by omega)
    have e184 : plm (trl im) 120 r.2 184 = im 184 := hX _ _ (by omega)
    have hb := hb _ e172
    have hS : Inv gGd (plm (trl im) 120 r.2) := act_stay hI (hX r.2) (by rw [plm_ch]; exact hch)
    generalize plm (trl im) 120 r.2 = Y at *
    refine ⟨_, rfl, ?_⟩
    rcases hb with ⟨q1, q2⟩ | ⟨q1, -⟩
    · have hTb : TbH Y dv := TbH_now g e172 (by rw [e184]; exact hI.2.2.2.1)
      refine (c_rebM (d := 91) hS.1.2.1 hTb (fun h => by omega)).mpr ?_
      rw [if_pos (by omega), q2]
      obtain ⟨s1, s2, s3, s4⟩ := tb_scr (Y := Y) (dv := dv)
      exact ⟨rfl, stay_scr hS s1 s2 s3 (c_tryReb (d := 0) hTb).2 s4⟩
    · omega
theorem sp_moves : Sp1 99 (Inv gGd) 96 221 := by
  intro im hI dv _
  have hh := hI.1.1
  have hT := trl_GdT hI
  have g := hT.2.1
  have hF := TrI_F (gT_S g.1) hT.1
  have hX : ∀ P : zPl, ∀ p : Nat, p < 120 ∨ 170 < p → plm (trl im) 120 P p = im p := fun P p hp => by
    rw [plm_o (by omega) (by omega), trl_ne (by omega)]
  have h163 : ChB (trl im 163) := by
    rw [trl_ne (by omega)]
    exact hI.2.2.1
  have hch := mk_ch (dv := dv) hT h163
  refine (c_moves (d := 91) hh hF.1.2 (PlI_now hT) hI.2.2.1 rfl).mpr ?_
  have hb := fun (Y : zM) (hY : Y 172 = im 172) => reb_both (dv := dv) hT hY
  generalize mkS (trl im 123) (trl im 122) (trl im 120 4) dv (plG (trl im) 120) = r at *
  have e172 : plm (trl im) 120 r.2 172 = im 172 := hX _ _ (by omega)
  have e184 : plm (trl im) 120 r.2 184 = im 184 := hX _ _ (by omega)
  have hb := hb _ e172
  have hS : Inv gGd (plm (trl im) 120 r.2) := act_stay hI (hX r.2) (by rw [plm_ch]; exact hch)
  have hv : (tbR (plm (trl im) 120 r.2) dv).1 = r.1 := by
    rcases hb with ⟨-, q⟩ | ⟨-, q, -⟩
    · exact q
    · exact q
  generalize plm (trl im) 120 r.2 = Y at *
  refine ⟨_, rfl, ?_⟩
  have hTb : TbH Y dv := TbH_now g e172 (by rw [e184]; exact hI.2.2.2.1)
  refine (c_movesM (d := 91) hTb).mpr ?_
  rw [hv]
  obtain ⟨s1, s2, s3, s4⟩ := tb_scr (Y := Y) (dv := dv)
  exact ⟨rfl, stay_scr hS s1 s2 s3 (c_tryReb (d := 0) hTb).2 s4⟩
end DB
