/-! THE STEP start -/
section DE
variable {im X Y Z : zM} {c c' c0 s sp A B w w' T W Am : Int → Int} {e f a b x y d k m n u un st bg en bu v sz ad dv nt i t o fi la : Int} {z z0 M L : zSS} {p q r : Int → Bool}
theorem ow_rest {P : zPl} : (owS w sp n dv a k P).2.2.2 = P.2.2 := by
  unfold owS
  split <;> rfl
theorem wk_rest : ∀ (m : Nat) (k : Int) (P : zPl), (wkS w sp n dv a m k P).2.2.2 = P.2.2
  | 0, _, _ => rfl
  | m + 1, k, P => by
    have e : wkS w sp n dv a (m + 1) k P = if (owS w sp n dv a k P).1 = 0 then (0, (owS w sp n dv a k P).2) else wkS w sp n dv a m (k + 1) (owS w sp n dv a k P).2 := rfl
    rw [e]
    split
    · exact ow_rest
    · rw [wk_rest m (k + 1) (owS w sp n dv a k P).2, ow_rest]
theorem wk_zero {P : zPl} (h : rup (gt P.1 dv 5) 16 = 0) : ∀ (m : Nat) (k : Int), wkS w sp n dv a m k P = (1, P)
  | 0, _ => rfl
  | m + 1, k => by
    have e : wkS w sp n dv a (m + 1) k P = if (owS w sp n dv a k P).1 = 0 then (0, (owS w sp n dv a k P).2) else wkS w sp n dv a m (k + 1) (owS w sp n dv a k P).2 := rfl
    have eo : owS w sp n dv a k P = (1, P) := if_pos h
    rw [e, eo, if_neg (by show ¬ (1 : Int) = 0; omega)]
    exact wk_zero h m (k + 1)
theorem bg_ch (hT : GdT gGd X 120 A) (hch : ChB (X 163)) : ChB (bgS (X 123) (X 122) (X 120 4) dv (plG X 120)).2.2.2.2.2.2 := by
  have t1 : SimC (X 121) A := hT.1.1
  have hP : (plG X 120).1 = X 121 := rfl
  unfold bgS
  by_cases c1 : ¬ 0 < gt (plG X 120).1 dv 0 ∨ gt (plG X 120).1 dv 3 = 1
  · rw [if_pos c1]
    exact hch
  · rw [if_neg c1]
    by_cases c2 : gt (plG X 120).1 dv 1 = -1 ∨ (gt (plG X 120).1 (gt (plG X 120).1 dv 1) 0 = 2 ∧ gt (plG X 120).1 (gt (plG X 120).1 dv 1) 3 = 1)
    · rw [if_neg (fun q => q c2)]
      rw [hP, sc_onBr t1] at c2
      have := se_ch (dv := dv) (most := 0) hT hch (P := plG X 120) hP rfl (by omega) c2
      rw [← hP] at this
      split
      · have hr : ∀ Q : zPl, Q.2.2 = (plG X 120).2.2 → ChB Q.2.2.2.2.2 := fun Q hQ => by
          rw [hQ]
          exact hch
        unfold bbS
        split
        · exact hch
        · split
          · exact hr _ (wk_rest ..)
          · have : ChB (wkS (X 123) (X 122) (X 120 4) dv (gt (plG X 120).1 dv 1) 2 0 (plG X 120)).2.2.2.2.2.2 := hr _ (wk_rest ..)
            exact this
      · split
        · exact this
        · exact this
    · rw [if_pos c2]
      exact hch
/-- START: class and reference -/
theorem start_both (hT : GdT gGd X 120 A) (hY : Y 172 = A) {r : Int × zPl} (hr0 : r = bgS (X 123) (X 122) (X 120 4) dv (plG X 120)) : (r.1 < 0 ∧ (stM Y dv).1 = r.1 ∧ ((stM Y dv).2 = Y ∨ ∃ y, (stM Y dv).2 = fim Y y)) ∨ (0 ≤ r.1 ∧ (stM Y dv).1 = r.1 ∧ ∃ y B, (stM Y dv).2 = setc (kaM (fim Y y)) 172 B ∧ GdT gGd (plm X 120 r.2) 120 B) := by
  have t1 : SimC (X 121) A := hT.1.1
  have g := hT.2.1
  have hM := g.1.1
  have hC : Cls (X 121) := hT.2.2
  have hF := TrI_F (gT_S g.1) hT.1
  have hP : (plG X 120).1 = X 121 := rfl
  have hplo : ∀ P : zPl, ∀ p : Nat, 120 ≤ p → p ≤ 124 → p ≠ 121 → plm X 120 P p = X p := fun P p p0 p1 p2 => plm_o (Or.inl (by omega)) p2
  rw [hr0]
  clear hr0
  unfold bgS stM
  rw [hP, hY]
  by_cases c1 : thM A dv ∧ ¬ onM A dv
  · have hr := th_rg c1.1
    have hD := sc_d t1 c1.1
    rw [if_neg (show ¬ (¬ 0 < gt (X 121) dv 0 ∨ gt (X 121) dv 3 = 1) from fun q => q.elim (fun q => q ((sc_th t1).mpr c1.1)) (fun q => c1.2 ((sc_on t1).mp q))), if_neg (show ¬ (¬ thM A dv ∨ onM A dv) from fun q => q.elim (fun q => q c1.1) c1.2)]
    have hbp := bus_par hM c1.1
    rw [sc_at t1 c1.1]
    have hiff : (A (23 * dv + 2) = -1 ∨ (gt (X 121) (A (23 * dv + 2)) 0 = 2 ∧ gt (X 121) (A (23 * dv + 2)) 3 = 1)) ↔ (A (23 * dv + 2) = -1 ∨ onBr A (A (23 * dv + 2))) := or_congr Iff.rfl (sc_onBr t1)
    by_cases c2 : A (23 * dv + 2) = -1 ∨ onBr A (A (23 * dv + 2))
    · rw [if_neg (show ¬ ¬ (A (23 * dv + 2) = -1 ∨ (gt (X 121) (A (23 * dv + 2)) 0 = 2 ∧ gt (X 121) (A (23 * dv + 2)) 3 = 1)) from fun q => q (hiff.mpr c2)), if_neg (show ¬ ¬ buOn A (buM A dv) from fun q => q (hbp.2.mpr c2)), hbp.1]
      by_cases c3 : A (23 * dv + 1) = 1
      · -- a bridge
        have hd : brM A dv ∧ ¬ onM A dv := ⟨⟨c1.1, c3⟩, c1.2⟩
        have h5 : gt (X 121) dv 5 = A (23 * dv + 16) := hD.2.2.2.2.2.2.1
        have h4 : gt (X 121) dv 4 = A (23 * dv + 15) := hD.2.2.2.2.2.1
        have h16 := (hM dv hr.1 hr.2).2.2.2.2.2.2.2.1
        rw [if_pos ((sc_br t1).mpr hd.1), if_pos c3]
        unfold bbS
        rw [hP]
        have hfb := fb_ln g t1 hF c2
        generalize hfi : fbS (X 121) (X 123) (X 120 4) (A (23 * dv + 2)) (32 - fstf (X 121) (A (23 * dv + 2))).toNat (fstf (X 121) (A (23 * dv + 2))) = fi at *
        rcases hfb with ⟨f1, f2⟩ | ⟨f1, f2, f3, f4⟩
        · rw [if_pos (show 31 < fi by omega), if_pos (show lnM A (bfM (A (23 * dv + 2))) < 0 by omega)]
          exact Or.inl ⟨by show (-3 : Int) < 0; omega, rfl, Or.inl rfl⟩
        · rw [if_neg (show ¬ 31 < fi by omega), if_neg (show ¬ lnM A (bfM (A (23 * dv + 2))) < 0 by omega), f1]
          rw [f1] at f2 f3 f4
          have hru : rup (gt (X 121) dv 5) 16 = rupM (A (23 * dv + 16)) 16 := by
            rw [h5]
            exact rup_eq (n := 4) (by omega) (by omega)
          have hsz : 0 ≤ rupM (A (23 * dv + 16)) 16 ∧ rupM (A (23 * dv + 16)) 16 ≤ 128 := by
            unfold rupM
            omega
          have hlb := lb_lt (c := X 121) (w := X 123) (n := X 120 4) (a := A (23 * dv + 2)) (fun b => fre_iff (b := b) t1 g hF c2) (gt (X 121) dv 4).toNat fi
          rw [hlb, h4]
          have hlt := lt_free (A := A) (bu := bfM (A (23 * dv + 2))) (A (23 * dv + 15)).toNat fi f4
          have hN : NuS A (A (23 * dv + 2)) fi (ltM A (bfM (A (23 * dv + 2))) (A (23 * dv + 15)).toNat fi) := hlt
          have hwk : (∃ Pw yb, wkS (X 123) (X 122) (X 120 4) dv (A (23 * dv + 2)) 2 0 (plG X 120) = (0, Pw) ∧ bwM A (bfM (A (23 * dv + 2))) (rupM (A (23 * dv + 16)) 16) 2 0 (Y 181, cwW (Y 182)) = (0, yb)) ∨ (∃ Pw yb, wkS (X 123) (X 122) (X 120 4) dv (A (23 * dv + 2)) 2 0 (plG X 120) = (1, Pw) ∧ bwM A (bfM (A (23 * dv + 2))) (rupM (A (23 * dv + 16)) 16) 2 0 (Y 181, cwW (Y 182)) = (1, yb) ∧ WnS A (A (23 * dv + 2)) (rupM (A (23 * dv + 16)) 16) yb.2 ∧ (∀ e f : Int, ¬ (e = dv ∧ (18 ≤ f ∧ f ≤ 21)) → gt Pw.1 e f = gt (X 121) e f) ∧ ∀ k : Int, 0 ≤ k → k < 2 → gt Pw.1 dv (18 + k) = yb.2 k ∧ gt Pw.1 dv (20 + k) = rupM (A (23 * dv + 16)) 16) := by
            by_cases c4 : rupM (A (23 * dv + 16)) 16 = 0
            · right
              have hcw : ∀ k : Int, 0 ≤ k → k < 2 → cwW (Y 182) k = -1 := fun k k0 k1 => by
                unfold cwW
                rw [if_pos (by omega)]
              have hoff : ∀ k : Int, 0 ≤ k → k < 2 → gt (X 121) dv (18 + k) = -1 ∧ gt (X 121) dv (20 + k) = 0 := fun k k0 k1 => ((hC dv hr.1 hr.2).2.2.2.2.2.2 k k0 k1).2.2 ((sc_th t1).mpr c1.1) (fun q => c1.2 ((sc_on t1).mp q))
              refine ⟨plG X 120, (Y 181, cwW (Y 182)), wk_zero (by rw [hP, hru]; exact c4) 2 0, ?_, fun k k0 k1 => Or.inl ⟨c4, hcw k k0 k1⟩, fun _ _ _ => rfl, fun k k0 k1 => ?_⟩
              · have e : bwM A (bfM (A (23 * dv + 2))) (rupM (A (23 * dv + 16)) 16) 2 0 (Y 181, cwW (Y 182)) = (1, (Y 181, cwW (Y 182))) := if_neg (by omega)
                exact e
              · dsimp only
                rw [hcw k k0 k1, c4]
                exact hoff k k0 k1
            · have hb := wk_both (c0 := X 121) g hF c2 hd hT.1.2.1 (sz := rupM (A (23 * dv + 16)) 16) (by omega) hru 2 0 (plG X 120) (Y 181, cwW (Y 182)) (Int.le_refl _) (by omega) ⟨t1, Cls_HsB hC, fun _ _ _ => rfl, fun k' k0 k1 => by omega⟩
              have hb : ((wkS (X 123) (X 122) (X 120 4) dv (A (23 * dv + 2)) 2 0 (plG X 120)).1 = 0 ∧ (bwM A (bfM (A (23 * dv + 2))) (rupM (A (23 * dv + 16)) 16) 2 0 (Y 181, cwW (Y 182))).1 = 0) ∨ ((wkS (X 123) (X 122) (X 120 4) dv (A (23 * dv + 2)) 2 0 (plG X 120)).1 = 1 ∧ (bwM A (bfM (A (23 * dv + 2))) (rupM (A (23 * dv + 16)) 16) 2 0 (Y 181, cwW (Y 182))).1 = 1 ∧ WkR A (X 121) (A (23 * dv + 2)) dv (rupM (A (23 * dv + 16)) 16) 2 (wkS (X 123) (X 122) (X 120 4) dv (A (23 * dv + 2)) 2 0 (plG X 120)).2.1 (bwM A (bfM (A (23 * dv + 2))) (rupM (A (23 * dv + 16)) 16) 2 0 (Y 181, cwW (Y 182))).2.2) := hb
              generalize wkS (X 123) (X 122) (X 120 4) dv (A (23 * dv + 2)) 2 0 (plG X 120) = F at *
              generalize bwM A (bfM (A (23 * dv + 2))) (rupM (A (23 * dv + 16)) 16) 2 0 (Y 181, cwW (Y 182)) = G at *
              rcases hb with ⟨q1, q2⟩ | ⟨q1, q2, q3, q4, q5, q6⟩
              · exact Or.inl ⟨F.2, G.2, by rw [← q1], by rw [← q2]⟩
              · refine Or.inr ⟨F.2, G.2, by rw [← q1], by rw [← q2], fun k k0 k1 => ?_, fun e f hef => q5 e f (by omega), fun k k0 k1 => ⟨(q6 k k0 k1).1, (q6 k k0 k1).2.1⟩⟩
                obtain ⟨-, -, r3, r4, r5, r6, r7⟩ := q6 k k0 k1
                exact Or.inr ⟨by omega, r3, r4, r5, r6, r7⟩
          rcases hwk with ⟨Pw, yb, w1, w2⟩ | ⟨Pw, yb, w1, w2, w3, w4, w5⟩
          · rw [w1, w2, if_pos rfl, if_neg (show ¬ (0 : Int) = 1 by omega)]
            exact Or.inl ⟨by show (-4 : Int) < 0; omega, rfl, Or.inr ⟨yb, rfl⟩⟩
          · rw [w1, w2, if_neg (show ¬ (1 : Int) = 0 by omega), if_pos rfl]
            refine Or.inr ⟨f2, rfl, yb, _, rfl, ?_⟩
            refine stw_GdT (c := Pw.1) hT hd rfl c2 (br_StW hr) (by omega) w3 hN (hplo _) w4 w5 ?_
            exact plm_c zT_120
      · -- an endpoint
        have hd : epM A dv ∧ ¬ onM A dv := ⟨⟨c1.1, by
          rcases (t1 dv hr.1 hr.2).1 with q | q
          · exact q
          · exact absurd q c3⟩, c1.2⟩
        rw [if_neg (show ¬ gt (X 121) dv 0 = 2 from fun q => c3 ((sc_br t1).mp q).2), if_neg c3]
        have hR := RC_now hT c2 hd
        have h5 := MG_many hM hr
        have hs := seat_start hR 2 0 0 (plG X 120) (Y 181, cwW (Y 182)) (Int.le_refl _) (by omega) (Int.le_refl _) (fun b b0 b1 _ => by
          show cwW (Y 182) b < 0
          unfold cwW
          rw [if_pos (by omega)]
          omega) (se_0 hR)
        have hf : fiM A (Y 181) (Y 182) dv (bfM (A (23 * dv + 2))) = fiK A dv (bfM (A (23 * dv + 2))) 2 0 (Y 181, cwW (Y 182)) := rfl
        rw [← hf] at hs
        generalize fiM A (Y 181) (Y 182) dv (bfM (A (23 * dv + 2))) = G at *
        generalize seS (X 123) (X 122) (X 120 4) dv (A (23 * dv + 2)) 0 2 0 0 (plG X 120) = F at *
        rcases hs with ⟨q1, q2⟩ | ⟨q1, q2, q3⟩
        · rw [if_pos q1, if_neg (show ¬ G.1 = 1 by omega)]
          exact Or.inl ⟨by show (-4 : Int) < 0; omega, rfl, Or.inr ⟨G.2, rfl⟩⟩
        · rw [if_neg (show ¬ F.1 = -1 by omega), if_pos q2]
          have e6 : gt (stc F.2.1 dv 3 1) dv 6 = A (23 * dv + 5) := by
            rw [gt_stc, if_neg (by omega), q3.1.1 dv 6 (by omega)]
            exact hD.2.2.2.2.1
          rw [e6]
          refine Or.inr ⟨h5.1, rfl, G.2, _, rfl, ?_⟩
          refine stb_GdT hT hd rfl c2 q3 (hplo _) ?_
          exact plm_c zT_120
    · rw [if_pos (show ¬ (A (23 * dv + 2) = -1 ∨ (gt (X 121) (A (23 * dv + 2)) 0 = 2 ∧ gt (X 121) (A (23 * dv + 2)) 3 = 1)) from fun q => c2 (hiff.mp q)), if_pos (show ¬ buOn A (buM A dv) from fun q => c2 (hbp.2.mp q))]
      exact Or.inl ⟨by show (-2 : Int) < 0; omega, rfl, Or.inl rfl⟩
  · left
    have n1 : ¬ thM A dv ∨ onM A dv := by
      by_cases q : thM A dv
      · exact Or.inr (Decidable.byContradiction fun r => c1 ⟨q, r⟩)
      · exact Or.inl q
    rw [if_pos (show ¬ 0 < gt (X 121) dv 0 ∨ gt (X 121) dv 3 = 1 from n1.imp (fun q r => q ((sc_th t1).mp r)) (fun q => (sc_on t1).mpr q)), if_pos n1]
    exact ⟨by show (-1 : Int) < 0; omega, rfl, Or.inl rfl⟩
theorem fim_scr {y : (Int → Int) × (Int → Int)} : (∀ p : Nat, p < 171 ∨ 190 ≤ p → fim Y y p = Y p) ∧ (fim Y y 171 32 = Y 171 32 ∧ fim Y y 171 33 = Y 171 33) ∧ fim Y y 172 = Y 172 ∧ fim Y y 176 = Y 176 ∧ fim Y y 184 = Y 184 := by
  have h : ∀ p : Nat, p ≠ 181 → p ≠ 182 → fim Y y p = Y p := fun p h1 h2 => by
    unfold fim
    rw [setc_ne _ _ h2, setc_ne _ _ h1]
  exact ⟨fun p hp => h p (by omega) (by omega), ⟨by rw [h 171 (by omega) (by omega)], by rw [h 171 (by omega) (by omega)]⟩, h _ (by omega) (by omega), h _ (by omega) (by omega), h _ (by omega) (by omega)⟩
theorem sp_start : Sp1 99 (Inv gGd) 93 205 := by
  intro im hI dv _
  have hh := hI.1.1
  have hT := trl_GdT hI
  have g := hT.2.1
  have hF := TrI_F (gT_S g.1) hT.1
  have hX : ∀ P : zPl, ∀ p : Nat, p < 120 ∨ 170 < p → plm (trl im) 120 P p = im p := fun P p hp => by
    rw [plm_o (by omega) (by omega), trl_ne (by omega)]
  have h163 : ChB (trl im 163) := by
    rw [trl_ne (by omega)]
    exact hI.2.2.1
  have hch := bg_ch (dv := dv) hT h163
  have hz : ∀ e, epM (im 172) e → MZ (im 172) e := fun e he x x0 x1 => by
    obtain ⟨m, m1, m2⟩ := g.1.2.2.2.2.2.2.2.1 e x he.1 x0 x1
    rw [m2]
    exact (pow_le8 m m1).1
  have hw : ∀ e, thM (im 172) e → buOn (im 172) (buM (im 172) e) → FtP (im 172) (buM (im 172) e) := fun e ht hb => by
    have hbp := bus_par g.1.1 ht
    rw [hbp.1]
    exact ft_now g (hbp.2.mp hb)
  refine (c_start (d := 91) hh hF.1.2 (PlI_now hT) hI.2.2.1 rfl).mpr ?_
  have hb := fun (Y : zM) (hY : Y 172 = im 172) => start_both (dv := dv) hT hY rfl
  generalize bgS (trl im 123) (trl im 122) (trl im 120 4) dv (plG (trl im) 120) = r at *
  by_cases c : 0 ≤ r.1
  · rw [if_pos c]
    have e172 := kp172 hI (hX r.2)
    have eHM := kpHM hI (hX r.2)
    have e184 : kp (plm (trl im) 120 r.2) 184 = im 184 := by rw [kp_far hI (hX r.2 1 (by omega)) (by omega), hX _ _ (by omega)]
    have hb := hb _ e172
    have hK := fun B hG => act_keep hI (hX r.2) (by rw [plm_ch]; exact hch) hG (A := B)
    generalize kp (plm (trl im) 120 r.2) = Y at *
    refine ⟨_, rfl, ?_⟩
    rcases hb with ⟨q1, -⟩ | ⟨q1, q2, y, B, q3, q4⟩
    · omega
    · refine (c_startM (d := 92) eHM (by rw [e172]; exact g.1.1) (by rw [e172]; exact hz) (by rw [e172]; exact hw)).mpr ?_
      rw [q2, q3]
      obtain ⟨s1, s2, s3, s4, s5⟩ := fim_scr (Y := Y) (y := y)
      exact ⟨rfl, keep_scr (hK B q4) s1 s2 s3 (by rw [s5, e184]; exact hI.2.2.2.1) s4⟩
  · rw [if_neg c]
    have e172 : plm (trl im) 120 r.2 172 = im 172 := hX _ _ (by omega)
    have e184 : plm (trl im) 120 r.2 184 = im 184 := hX _ _ (by omega)
    have hb := hb _ e172
    have hS : Inv gGd (plm (trl im) 120 r.2) := act_stay hI (hX r.2) (by rw [plm_ch]; exact hch)
    generalize plm (trl im) 120 r.2 = Y at *
    refine ⟨_, rfl, ?_⟩
    rcases hb with ⟨q1, q2, q3⟩ | ⟨q1, -⟩
    · refine (c_startM (d := 92) hS.1.2.1 (by rw [e172]; exact g.1.1) (by rw [e172]; exact hz) (by rw [e172]; exact hw)).mpr ?_
      rw [q2]
      refine ⟨rfl, ?_⟩
      rcases q3 with q3 | ⟨y, q3⟩
      · rw [q3]
        exact hS
      · rw [q3]
        obtain ⟨s1, s2, s3, s4, s5⟩ := fim_scr (Y := Y) (y := y)
        exact stay_scr hS s1 s2 s3 (by rw [s5, e184]; exact hI.2.2.2.1) s4
    · omega
end DE
