/-! THE STEP peer -/
section BQ
variable {im X Y : zM} {c c' s sp A B w w' T : Int → Int} {e f a b x y d k m n u un st bg en bu v sz ad : Int} {z : zSS} {p q r : Int → Bool}
/-- down only: the reference's two ways of telling it -/
theorem dn_eq (hc : SimC c A) (g : gGd A) (hF : WkF A w n) (h6 : HsB c) (hk : 0 ≤ k ∧ k < 2) (z : zSS) (ad : Int) : ∀ (M : Nat) (a dn x t : Int), (a = -1 ∨ onBr A a) → 6 ≤ M + lbM A a → (dn = 1 ∨ 0 ≤ owM A (bfM a) k ad ∨ 0 ≤ wiO A (bfM a) k ad) → ffM' A k ad (M + 1) (bfM a) dn x t = ((flM A k ad M (wiO A (bfM a) k ad) x (owM A (bfM a) k ad)).2, ((flM A k ad M (wiO A (bfM a) k ad) x (owM A (bfM a) k ad)).1, t)) := by
  intro M
  induction M with
  | zero =>
    intro a dn x t ha hl hd
    have hs := gT_S g.1
    rcases bus_hold hc g hF h6 ha hk z ad with ⟨q0, q1, q2⟩ | ⟨e, q1, q2, -⟩
    · have hdn := hd.resolve_right (by omega)
      simp only [ffM', flM]
      rw [if_neg (by omega), if_neg (by omega), if_neg (by omega), q1]
    · have := le_bus hs q1.1 q2
      have := le_bd A e
      omega
  | succ M ih =>
    intro a dn x t ha hl hd
    have hs := gT_S g.1
    rw [show ffM' A k ad (M + 1 + 1) (bfM a) dn x t = if 0 ≤ owM A (bfM a) k ad then (owM A (bfM a) k ad, (x, t)) else if 0 ≤ wiO A (bfM a) k ad then ffM' A k ad (M + 1) (wiO A (bfM a) k ad) 1 (x + 1) t else if dn = 0 ∧ (bfM a) ≠ 20 ∧ ¬ hdP (A (23 * (bfM a) + (19 + k))) (A (23 * (bfM a) + (21 + k))) ad then ffM' A k ad (M + 1) (buM A (bfM a)) 0 (x + 1) (buM A (bfM a)) else (-1, (x, t)) from rfl]
    rcases bus_hold hc g hF h6 ha hk z ad with ⟨q0, q1, q2⟩ | ⟨e, q1, q2, q3, q4, q5⟩
    · have hdn := hd.resolve_right (by omega)
      obtain ⟨d1, d2⟩ := fl_done (A := A) (k := k) (ad := ad) (m := M + 1) (b := wiO A (bfM a) k ad) (f := owM A (bfM a) k ad) (x := x) (Or.inr (by omega))
      rw [d1, if_neg (by omega), if_neg (by omega), if_neg (by omega), q1]
    · have he := q1.1.1
      rcases q5 with ⟨r1, r2⟩ | ⟨r1, r2, r3, r4⟩
      · obtain ⟨d1, d2⟩ := fl_done (A := A) (k := k) (ad := ad) (m := M + 1) (b := wiO A (bfM a) k ad) (f := owM A (bfM a) k ad) (x := x) (Or.inl (by omega))
        rw [d1, if_pos (by omega)]
      · have hle := le_bus hs q1.1 q2
        have hlb := lb_br r2
        have i1 := ih e 1 (x + 1) t (Or.inr r2) (by omega) (Or.inl rfl)
        rw [bf_br r2] at i1
        rw [show flM A k ad (M + 1) (wiO A (bfM a) k ad) x (owM A (bfM a) k ad) = if owM A (bfM a) k ad < 0 ∧ 0 ≤ wiO A (bfM a) k ad then flM A k ad M (wiO A (wiO A (bfM a) k ad) k ad) (x + 1) (owM A (wiO A (bfM a) k ad) k ad) else (x, owM A (bfM a) k ad) from rfl, if_neg (by omega), if_pos (by omega), if_pos ⟨by omega, by omega⟩, r4]
        exact i1
theorem up_bus (g : gGd A) (ha : onBr A a) : (A (23 * a + 2) = -1 ∨ onBr A (A (23 * a + 2))) ∧ buM A a = bfM (A (23 * a + 2)) ∧ lbM A a = lbM A (A (23 * a + 2)) + 1 := by
  have hs := gT_S g.1
  have hr := th_rg ha.1.1
  have hat := MG_at g.1.1 hr
  have h1 : A (23 * a + 2) = -1 ∨ onBr A (A (23 * a + 2)) := by
    by_cases q : A (23 * a + 2) = -1
    · exact Or.inl q
    · exact Or.inr (rg_par g ha q).1
  refine ⟨h1, ?_, ?_⟩
  · unfold buM bfM
    rcases h1 with q | q
    · rw [if_pos (by omega), if_pos q]
    · have := th_rg q.1.1
      rw [if_neg (by omega), if_neg (by omega)]
  · rw [lb_br ha, le_bus hs ha.1.1 rfl]
/-- as far up as need be, then down: class and reference -/
theorem cl_eq (hc : SimC c A) (g : gGd A) (hF : WkF A w n) (h6 : HsB c) (hsp : ∀ k : Int, 0 ≤ k → k < 2 → sp k = A (460 + k)) (hk : 0 ≤ k ∧ k < 2) (ad : Int) : ∀ (m : Nat) (a : Int) (y : zSS × (Int → Int)) (M : Nat), (a = -1 ∨ onBr A a) → lbM A a + 1 ≤ m → lbM A a + 7 ≤ M → y.2 1 = -1 → y.2 3 = a → (clS c w sp n k ad m y).2 1 = (ffM' A k ad M (bfM a) 0 (y.2 2) (bfM a)).1 ∧ (clS c w sp n k ad m y).2 2 = (ffM' A k ad M (bfM a) 0 (y.2 2) (bfM a)).2.1 ∧ ∃ b, (b = -1 ∨ onBr A b) ∧ (clS c w sp n k ad m y).2 3 = b ∧ (ffM' A k ad M (bfM a) 0 (y.2 2) (bfM a)).2.2 = bfM b := by
  intro m
  induction m with
  | zero =>
    intro a y M ha hl hM hy1 hy3
    have := lb_nn (A := A) a
    omega
  | succ m ih =>
    intro a y M ha hl hM hy1 hy3
    have hlb := lb_nn (A := A) a
    obtain ⟨M', rfl⟩ : ∃ M' : Nat, M = M' + 1 := ⟨M - 1, by omega⟩
    obtain ⟨s1, s2, s3, s4, s5⟩ := sn_eq hc g hF h6 hk (ad := ad) 5 0 a y M' ha (by omega) (by omega) (by omega) hy1 (by omega)
    simp only [clS]
    rw [hy3]
    by_cases c1 : owM A (bfM a) k ad = -1 ∧ wiO A (bfM a) k ad = -1
    · have s5' : (snS c w n k ad 5 0 a y).1 = 0 := by rw [s5, if_pos ⟨rfl, c1.1, c1.2⟩]
      obtain ⟨d1, d2⟩ := fl_done (A := A) (k := k) (ad := ad) (m := M') (b := wiO A (bfM a) k ad) (f := owM A (bfM a) k ad) (x := y.2 2) (Or.inr (by omega))
      rw [d1] at s1 s2
      dsimp only at s1 s2
      have hff : ffM' A k ad (M' + 1) (bfM a) 0 (y.2 2) (bfM a) = if bfM a ≠ 20 ∧ ¬ hdP (A (23 * bfM a + (19 + k))) (A (23 * bfM a + (21 + k))) ad then ffM' A k ad M' (buM A (bfM a)) 0 (y.2 2 + 1) (buM A (bfM a)) else (-1, (y.2 2, bfM a)) := by
        simp only [ffM']
        rw [if_neg (show ¬ 0 ≤ owM A (bfM a) k ad by omega), if_neg (show ¬ 0 ≤ wiO A (bfM a) k ad by omega)]
        simp only [true_and]
      rw [hff]
      rcases ha with q | q
      · have eb : bfM a = 20 := by
          unfold bfM
          rw [if_pos q]
        rw [if_pos (Or.inr (Or.inl q)), if_neg (fun r => r.1 eb)]
        refine ⟨by rw [s1, c1.1], s2, a, Or.inl q, ?_, rfl⟩
        rw [s3, hy3]
      · have hr := th_rg q.1.1
        have eb := bf_br q
        have hM := MG_win g.1.1 hr hk
        obtain ⟨b1, b2⟩ := beg_now hc g hsp (Or.inr q) hk
        rw [eb] at b1 b2
        have hw : wiM A a k = A (23 * a + (21 + k)) := if_neg (by omega)
        have hb : beM A a k = A (23 * a + (19 + k)) := if_neg (by omega)
        have hwt := fun h => wi_thing g q hk h
        have hiff : hdB c sp a k ad ↔ hdP (A (23 * a + (19 + k))) (A (23 * a + (21 + k))) ad := by
          unfold hdB hdP
          rw [b1, b2]
          rw [hw, hb] at *
          by_cases c2 : A (23 * a + (21 + k)) = 0
          · rw [if_pos c2]
            omega
          · rw [if_neg c2]
            have := hwt c2
            omega
        by_cases c2 : hdP (A (23 * a + (19 + k))) (A (23 * a + (21 + k))) ad
        · rw [if_pos (Or.inr (Or.inr (hiff.mpr c2))), if_neg (by rw [eb]; exact fun r => r.2 c2)]
          refine ⟨by rw [s1, c1.1], s2, a, Or.inr q, ?_, rfl⟩
          rw [s3, hy3]
        · rw [if_neg (fun r => by
            rcases r with r | r | r
            · omega
            · omega
            · exact c2 (hiff.mp r)), if_pos (by rw [eb]; exact ⟨by omega, c2⟩), eb]
          obtain ⟨u1, u2, u3⟩ := up_bus g q
          have hgt : gt c a 1 = A (23 * a + 2) := sc_at hc q.1.1
          have i := ih (A (23 * a + 2)) ((snS c w n k ad 5 0 a y).2.1, ups (ups (snS c w n k ad 5 0 a y).2.2 2 ((snS c w n k ad 5 0 a y).2.2 2 + 1)) 3 (gt c a 1)) M' u1 (by omega) (by omega) (by dsimp only; rw [ups_ne _ _ (by omega), ups_ne _ _ (by omega), s1, c1.1]) (by dsimp only; rw [ups_at, hgt])
          dsimp only at i
          rw [ups_ne (ups (snS c w n k ad 5 0 a y).2.2 2 ((snS c w n k ad 5 0 a y).2.2 2 + 1)) (i := 3) (j := 2) _ (by omega), ups_at, s2, ← u2] at i
          rw [s2]
          exact i
    · have hne : 0 ≤ owM A (bfM a) k ad ∨ 0 ≤ wiO A (bfM a) k ad := by
        have := owM_bd (A := A) (bu := bfM a) (k := k) (ad := ad)
        have := wiO_bd (A := A) (bu := bfM a) (k := k) (ad := ad)
        omega
      have s5' : (snS c w n k ad 5 0 a y).1 = 1 := by rw [s5, if_neg (fun r => c1 r.2)]
      rw [if_pos (Or.inl s5'), dn_eq hc g hF h6 hk y.1 ad M' a 0 (y.2 2) (bfM a) ha (by omega) (Or.inr hne)]
      refine ⟨s1, s2, a, ha, ?_, rfl⟩
      rw [s3, hy3]
theorem fst_now (hc : SimC c A) (hb : b = -1 ∨ onBr A b) : fstf c b = fsM A (bfM b) := by
  unfold fstf bfM fsM
  rcases hb with q | q
  · rw [if_pos q, if_pos q, if_pos rfl]
  · have hr := th_rg q.1.1
    rw [if_neg (by omega), if_neg (by omega), if_neg (by omega)]
    exact (sc_17 hc q).1
theorem sp_peer : Sp4 99 (Inv gGd) 106 239 := by
  intro im hI dv _ k _ v hv w _
  have hc := Inv_c hI
  have g := Inv_g hI
  have hs := gT_S g.1
  have hF := Inv_F hI
  have hC := Inv_Cls hI
  have hv' : -2147483648 ≤ v ∧ v ≤ 2147483647 := hv
  have hpar : thM (im 172) dv → buOn (im 172) (buM (im 172) dv) → (im 172 (23 * dv + 2) = -1 ∨ onBr (im 172) (im 172 (23 * dv + 2))) ∧ buM (im 172) dv = bfM (im 172 (23 * dv + 2)) := fun ht hb => by
    have hat := MG_at g.1.1 (dv := dv) (th_rg ht)
    unfold buM buOn bfM at *
    by_cases q : im 172 (23 * dv + 2) < 0
    · rw [if_pos q, if_pos (by omega)]
      exact ⟨Or.inl (by omega), rfl⟩
    · rw [if_neg q] at hb ⊢
      rw [if_neg (by omega)]
      exact ⟨Or.inr (hb.resolve_left (by omega)), rfl⟩
  have hcl : ∀ k : Int, 0 ≤ k → k < 2 → thM (im 172) dv → buOn (im 172) (buM (im 172) dv) → _ := fun k k0 k1 ht hb => cl_eq hc g hF (Cls_HsB hC) (Inv_sp hI) ⟨k0, k1⟩ v 5 (im 172 (23 * dv + 2)) (gsh im 165, dse (im 164) (im 172 (23 * dv + 2))) 40 (hpar ht hb).1 (by
    have := le_bus hs ht rfl
    have := le_bd (im 172) dv
    omega) (by
    have := le_bus hs ht rfl
    have := le_bd (im 172) dv
    omega) (dse_1 (a := im 172 (23 * dv + 2)) (im 164)).1 (dse_1 (a := im 172 (23 * dv + 2)) (im 164)).2.2
  have hwp : ∀ k : Int, 0 ≤ k → k < 2 → ∀ b : Int, onM (im 172) b → 0 < im 172 (23 * b + (21 + k)) → 0 ≤ im 172 (23 * b + (19 + k)) := fun k k0 k1 b hb hw => by
    have h := (tk_now (bu := buM (im 172) b) g ⟨k0, k1⟩ b hb rfl).2 hw
    exact h.1
  have hup : ∀ b : Int, onM (im 172) b → buM (im 172) b = 20 ∨ onM (im 172) (buM (im 172) b) := fun b hb => by
    unfold buM
    rcases g.2.1 b hb with q | q
    · left
      rw [if_pos (by omega)]
    · right
      rw [if_neg (by have := q.1.1; omega)]
      exact q
  have hbd : ∀ k : Int, 0 ≤ k → k < 2 → thM (im 172) dv → buOn (im 172) (buM (im 172) dv) → 0 ≤ (ffM' (im 172) k v 40 (buM (im 172) dv) 0 0 (buM (im 172) dv)).2.2 ∧ (ffM' (im 172) k v 40 (buM (im 172) dv) 0 0 (buM (im 172) dv)).2.2 ≤ 20 := fun k k0 k1 ht hb => by
    obtain ⟨-, -, b, h1, -, h2⟩ := hcl k k0 k1 ht hb
    have e2 : ((gsh im 165, dse (im 164) (im 172 (23 * dv + 2))) : zSS × (Int → Int)).2 2 = 0 := (dse_1 (a := im 172 (23 * dv + 2)) (im 164)).2.1
    rw [e2] at h2
    rw [(hpar ht hb).2, h2]
    have := bus_rg h1
    unfold bfM
    split <;> omega
  refine (c_peer (d := 93) (Inv_hh hI) rfl hF.1.2 (Cls_TB hC) hv' (fun hk => SnOK_now hC hk)).mpr ?_
  have hiff : (0 < gt (im (nowT (im 1 1) + 1)) dv 0 ∧ (gt (im (nowT (im 1 1) + 1)) dv 1 = -1 ∨ (gt (im (nowT (im 1 1) + 1)) (gt (im (nowT (im 1 1) + 1)) dv 1) 0 = 2 ∧ gt (im (nowT (im 1 1) + 1)) (gt (im (nowT (im 1 1) + 1)) dv 1) 3 = 1)) ∧ 0 ≤ k ∧ k < 2) ↔ (thM (im 172) dv ∧ buOn (im 172) (buM (im 172) dv) ∧ (0 ≤ k ∧ k ≤ 1)) := by
    rw [sc_th hc, sc_onBr hc]
    constructor
    · rintro ⟨q1, q2, q3, q4⟩
      rw [sc_at hc q1] at q2
      refine ⟨q1, ?_, by omega⟩
      unfold buOn buM
      rcases q2 with r | r
      · rw [if_pos (by omega)]
        exact Or.inl rfl
      · rw [if_neg (by have := r.1.1.1; omega)]
        exact Or.inr r
    · rintro ⟨q1, q2, q3⟩
      refine ⟨q1, ?_, by omega⟩
      rw [sc_at hc q1]
      exact (hpar q1 q2).1
  by_cases c1 : thM (im 172) dv ∧ buOn (im 172) (buM (im 172) dv) ∧ (0 ≤ k ∧ k ≤ 1)
  · rw [if_pos (hiff.mpr c1)]
    have e172 : ∀ z e, rt im z e 172 = im 172 := fun z e => rt_ne (by omega)
    obtain ⟨h1, h2, b, h3, h4, h5⟩ := hcl k c1.2.2.1 (by omega) c1.1 c1.2.1
    have e2 : ((gsh im 165, dse (im 164) (im 172 (23 * dv + 2))) : zSS × (Int → Int)).2 2 = 0 := (dse_1 (a := im 172 (23 * dv + 2)) (im 164)).2.1
    rw [e2] at h1 h2 h5
    rw [← (hpar c1.1 c1.2.1).2] at h1 h2 h5
    have hcm : cmS im (nowT (im 1 1)) (gt (im (nowT (im 1 1) + 1)) dv 1) k v = clS (im (nowT (im 1 1) + 1)) (im (nowT (im 1 1) + 3)) (im (nowT (im 1 1) + 2)) (im (nowT (im 1 1)) 4) k v 5 (gsh im 165, dse (im 164) (im 172 (23 * dv + 2))) := by
      unfold cmS
      rw [sc_at hc c1.1]
    rw [hcm]
    generalize clS (im (nowT (im 1 1) + 1)) (im (nowT (im 1 1) + 3)) (im (nowT (im 1 1) + 2)) (im (nowT (im 1 1)) 4) k v 5 (gsh im 165, dse (im 164) (im 172 (23 * dv + 2))) = C at h1 h2 h4 ⊢
    refine ⟨_, rfl, (c_peerM2 (d := 94) (by rw [e172]; exact g.1.1) hv' (by rw [e172]; exact fun b k k0 k1 => tk_now g ⟨k0, k1⟩) (by rw [e172]; exact hwp) (by rw [e172]; exact hup) (by rw [e172]; exact hbd)).mpr ?_⟩
    rw [e172]
    by_cases c2 : 0 ≤ w ∧ w ≤ 2
    · rw [if_pos ⟨c1.1, c1.2.1, c1.2.2, c2⟩]
      refine ⟨?_, Inv_rt hI (fun p h6 h7 => ?_) ⟨?_, ?_⟩⟩
      · rw [h1, h2, h4, h5, fst_now hc h3]
        rcases (show w = 0 ∨ w = 1 ∨ w = 2 by omega) with rfl | rfl | rfl
        · rfl
        · rfl
        · rfl
      · unfold ctm
        rw [setc_ne _ _ h7, rt_ne (by omega)]
      · unfold ctm
        rw [setc_at, ups_ne _ _ (by omega), ups_ne _ _ (by omega), rt_ne (by omega)]
      · unfold ctm
        rw [setc_at, ups_ne _ _ (by omega), ups_ne _ _ (by omega), rt_ne (by omega)]
    · rw [if_neg (fun q => c2 q.2.2.2), if_neg (by omega), if_neg (by omega), if_neg (by omega)]
      exact ⟨rfl, Inv_rt hI (fun p h6 h7 => rt_ne (by omega)) ⟨by rw [rt_ne (by omega)], by rw [rt_ne (by omega)]⟩⟩
  · rw [if_neg (fun q => c1 (hiff.mp q))]
    refine ⟨_, rfl, (c_peerM2 (d := 94) g.1.1 hv' (fun b k k0 k1 => tk_now g ⟨k0, k1⟩) hwp hup hbd).mpr ?_⟩
    rw [if_neg (fun q => c1 ⟨q.1, q.2.1, q.2.2.1⟩)]
    exact ⟨rfl, hI⟩
end BQ
