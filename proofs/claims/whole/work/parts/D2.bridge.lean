/-! STARTING A BRIDGE: numbers and windows -/
section DC
variable {im X Y Z : zM} {c c' c0 s sp A B w w' T W Am : Int → Int} {e f a b x y d k m n u un st bg en bu v sz ad dv nt i t o fi la : Int} {z z0 M L : zSS} {p q r : Int → Bool}
theorem ff_skip : ∀ (j m : Nat) (i : Int), (∀ v : Int, i ≤ v → v < i + j → p v ≠ true) → ff p (j + m) i = ff p m (i + j)
  | 0, m, i, _ => by
    rw [Nat.zero_add]
    congr 1
    omega
  | j + 1, m, i, h => by
    rw [show j + 1 + m = (j + m) + 1 by omega]
    have e : ff p (j + m + 1) i = ff p (j + m) (i + 1) := if_neg (h i (Int.le_refl _) (by omega))
    rw [e, ff_skip j m (i + 1) (fun v v0 v1 => h v (by omega) (by omega))]
    congr 1
    omega
theorem fb_eq (h : ∀ b, fre c w n a b ↔ fuP A bu b) : ∀ (m : Nat) (f : Int), 0 ≤ f → f + m = 32 → ff (fun v => decide (fuP A bu v)) m f = if fbS c w n a m f = 32 then -1 else fbS c w n a m f
  | 0, f, f0, f1 => by
    have e : fbS c w n a 0 f = f := rfl
    rw [e, if_pos (by omega)]
    rfl
  | m + 1, f, f0, f1 => by
    have e : fbS c w n a (m + 1) f = if fre c w n a f then f else fbS c w n a m (f + 1) := rfl
    by_cases q : fuP A bu f
    · have e2 : ff (fun v => decide (fuP A bu v)) (m + 1) f = f := if_pos (decide_eq_true q)
      rw [e2, e, if_pos ((h f).mpr q), if_neg (by omega)]
    · have e2 : ff (fun v => decide (fuP A bu v)) (m + 1) f = ff (fun v => decide (fuP A bu v)) m (f + 1) := if_neg (fun r => q (of_decide_eq_true r))
      rw [e2, e, if_neg (fun r => q ((h f).mp r))]
      exact fb_eq h m (f + 1) (by omega) (by omega)
theorem lb_lt (h : ∀ b, fre c w n a b ↔ fuP A bu b) : ∀ (m : Nat) (f : Int), lbS c w n a m f = ltM A bu m f
  | 0, _ => rfl
  | m + 1, f => by
    have e : lbS c w n a (m + 1) f = if fre c w n a (f + 1) then lbS c w n a m (f + 1) else f := rfl
    have e2 : ltM A bu (m + 1) f = if fuP A bu (f + 1) then ltM A bu m (f + 1) else f := rfl
    rw [e, e2]
    by_cases q : fuP A bu (f + 1)
    · rw [if_pos q, if_pos ((h _).mpr q)]
      exact lb_lt h m (f + 1)
    · rw [if_neg q, if_neg (fun r => q ((h _).mp r))]
theorem fs_rg2 (g : gGd A) (ha : a = -1 ∨ onBr A a) : 0 ≤ fsM A (bfM a) ∧ fsM A (bfM a) ≤ 31 ∧ lsM A (bfM a) ≤ 31 := by
  unfold fsM lsM bfM
  rcases ha with q | q
  · rw [if_pos q, if_pos rfl, if_pos rfl]
    omega
  · have hr := th_rg q.1.1
    rw [if_neg (by omega), if_neg (by omega), if_neg (by omega)]
    have := (g.2.2.2.1 a q.1 q.2).1
    omega
/-- the lowest number -/
theorem fb_ln (g : gGd A) (hc : SimC c A) (hF : WkF A w n) (ha : a = -1 ∨ onBr A a) : (lnM A (bfM a) = -1 ∧ fbS c w n a (32 - fstf c a).toNat (fstf c a) = 32) ∨ (lnM A (bfM a) = fbS c w n a (32 - fstf c a).toNat (fstf c a) ∧ 0 ≤ lnM A (bfM a) ∧ lnM A (bfM a) < 32 ∧ fuP A (bfM a) (lnM A (bfM a))) := by
  have hf := fun b => fre_iff (b := b) hc g hF ha
  have hs := fst_now hc ha
  have hb := fs_rg2 g ha
  rw [hs]
  have e1 : lnM A (bfM a) = ff (fun v => decide (fuP A (bfM a) v)) (32 - fsM A (bfM a)).toNat (fsM A (bfM a)) := by
    unfold lnM
    have := ff_skip (p := fun v => decide (fuP A (bfM a) v)) (fsM A (bfM a)).toNat (32 - fsM A (bfM a)).toNat 0 (fun v v0 v1 q => by
      have := (of_decide_eq_true q).1.1
      omega)
    rw [show (fsM A (bfM a)).toNat + (32 - fsM A (bfM a)).toNat = 32 by omega, show (0 : Int) + ((fsM A (bfM a)).toNat : Int) = fsM A (bfM a) by omega] at this
    exact this
  have e2 := fb_eq hf (32 - fsM A (bfM a)).toNat (fsM A (bfM a)) hb.1 (by omega)
  rw [← e1] at e2
  have e3 := ff_cases (fun v => decide (fuP A (bfM a) v)) 32 0
  have e4 : ff (fun v => decide (fuP A (bfM a) v)) 32 0 = lnM A (bfM a) := rfl
  rw [e4] at e3
  by_cases q : fbS c w n a (32 - fsM A (bfM a)).toNat (fsM A (bfM a)) = 32
  · rw [if_pos q] at e2
    exact Or.inl ⟨e2, q⟩
  · rw [if_neg q] at e2
    right
    have hge := (fbS_ge (c := c) (w := w) (n := n) (a := a) (32 - fsM A (bfM a)).toNat (fsM A (bfM a))).1
    rcases e3 with r | ⟨r1, r2, r3⟩
    · omega
    · exact ⟨e2, by omega, by omega, of_decide_eq_true r3⟩
/-- the last number: all between are free -/
theorem lt_free : ∀ (m : Nat) (l : Int), fuP A bu l → (l ≤ ltM A bu m l ∧ ∀ v : Int, l ≤ v → v ≤ ltM A bu m l → fuP A bu v)
  | 0, l, h => ⟨Int.le_refl _, fun v v0 v1 => by
    have : v = l := by
      have e : ltM A bu 0 l = l := rfl
      omega
    rw [this]
    exact h⟩
  | m + 1, l, h => by
    have e : ltM A bu (m + 1) l = if fuP A bu (l + 1) then ltM A bu m (l + 1) else l := rfl
    rw [e]
    by_cases q : fuP A bu (l + 1)
    · rw [if_pos q]
      obtain ⟨h1, h2⟩ := lt_free m (l + 1) q
      refine ⟨by omega, fun v v0 v1 => ?_⟩
      by_cases r : v = l
      · rw [r]
        exact h
      · exact h2 v (by omega) v1
    · rw [if_neg q]
      refine ⟨Int.le_refl _, fun v v0 v1 => ?_⟩
      have : v = l := by omega
      rw [this]
      exact h
theorem loW_0 (h : wiM A bu k = 0) : loW A T bu k sz st = -1 := by
  unfold loW
  rw [if_pos h]
/-- where class and reference stand between the windows of a bridge -/
def WkR (A c0 : Int → Int) (a dv sz k : Int) (c W : Int → Int) : Prop := SimC c A ∧ HsB c ∧ (∀ e f : Int, ¬ (e = dv ∧ ((18 ≤ f ∧ f < 18 + k) ∨ (20 ≤ f ∧ f < 20 + k))) → gt c e f = gt c0 e f) ∧ ∀ k' : Int, 0 ≤ k' → k' < k → gt c dv (18 + k') = W k' ∧ gt c dv (20 + k') = sz ∧ 0 ≤ W k' ∧ beM A (bfM a) k' ≤ W k' ∧ W k' + sz ≤ beM A (bfM a) k' + wiM A (bfM a) k' ∧ (W k' + sz ≤ 1024 ∧ 0 < wiM A (bfM a) k') ∧ ∀ t, ThN A a k' t → W k' + sz ≤ bgT A t k' ∨ bgT A t k' + wdT A t k' ≤ W k'
theorem win_SimC (hc : SimC c A) (hd : brM A dv ∧ ¬ onM A dv) {f1 v1 f2 v2 : Int} (h1 : 18 ≤ f1 ∧ f1 ≤ 21) (h2 : 18 ≤ f2 ∧ f2 ≤ 21) : SimC (stc (stc c dv f1 v1) dv f2 v2) A := fun e e0 e1 => by
  obtain ⟨q1, q2, q3, q4⟩ := hc e e0 e1
  have hg : ∀ f : Int, (f < 18 ∨ 21 < f ∨ e ≠ dv) → gt (stc (stc c dv f1 v1) dv f2 v2) e f = gt c e f := fun f hf => by
    rw [gt_stc, if_neg (by omega), gt_stc, if_neg (by omega)]
  refine ⟨q1, q2, fun ht => ?_, fun ht => ?_⟩
  · obtain ⟨d1, d2, d3, d4, d5, d6, d7, d8, d9⟩ := q3 ht
    unfold SimD
    rw [hg 0 (by omega), hg 1 (by omega), hg 2 (by omega), hg 3 (by omega), hg 4 (by omega), hg 5 (by omega), hg 6 (by omega), hg 7 (by omega), hg 8 (by omega)]
    refine ⟨d1, d2, d3, d4, d5, d6, d7, fun x x0 x1 => ?_, fun hb => ⟨(d9 hb).1, fun ho => ?_⟩⟩
    · by_cases r : e = dv
      · have := (d9 (by rw [r]; exact hd.1.2)).1
        omega
      · rw [hg (9 + x) (Or.inr (Or.inr r)), hg (12 + x) (Or.inr (Or.inr r)), hg (15 + x) (Or.inr (Or.inr r))]
        exact d8 x x0 x1
    · have hne : e ≠ dv := fun r => hd.2 ⟨hd.1.1, by rw [← r]; exact ho⟩
      obtain ⟨r1, r2, r3⟩ := (d9 hb).2 ho
      refine ⟨r1, r2, fun k kk0 kk1 => ?_⟩
      rw [hg _ (Or.inr (Or.inr hne)), hg _ (Or.inr (Or.inr hne))]
      exact r3 k kk0 kk1
  · rw [hg 0 (by omega), hg 3 (by omega)]
    exact q4 ht
theorem wk_both (g : gGd A) (hF : WkF A w n) (ha : a = -1 ∨ onBr A a) (hd : brM A dv ∧ ¬ onM A dv) (hsp : ∀ k : Int, 0 ≤ k → k < 2 → sp k = A (460 + k)) (hs : 1 ≤ sz ∧ sz ≤ 1024) (hsz : rup (gt c0 dv 5) 16 = sz) : ∀ (m : Nat) (k : Int) (P : zPl) (y : (Int → Int) × (Int → Int)), 0 ≤ k → k + m = 2 → WkR A c0 a dv sz k P.1 y.2 → ((wkS w sp n dv a m k P).1 = 0 ∧ (bwM A (bfM a) sz m k y).1 = 0) ∨ ((wkS w sp n dv a m k P).1 = 1 ∧ (bwM A (bfM a) sz m k y).1 = 1 ∧ WkR A c0 a dv sz 2 (wkS w sp n dv a m k P).2.1 (bwM A (bfM a) sz m k y).2.2)
  | 0, k, P, y, k0, k1, h => by
    have : k = 2 := by omega
    subst this
    exact Or.inr ⟨rfl, rfl, h⟩
  | m + 1, k, P, y, k0, k1, h => by
    have hk : 0 ≤ k ∧ k < 2 := by omega
    obtain ⟨h1, h2, h3, h4⟩ := id h
    have hdr := th_rg hd.1.1
    have hw := bw_now g ha hk
    have hb := beg_now h1 g hsp ha hk
    have e5 : gt P.1 dv 5 = gt c0 dv 5 := h3 dv 5 (by omega)
    have hSm := SmSt_now (z := P.2.1) h1 g hF h2 ha hk
    have hTR := TR_la (T := y.1) (bu := bfM a) (k := k) g.1.1
    have hlo := low_eq (n := 4) (by omega) hSm hTR hs hw hb.2 (en := begf P.1 a k + lenf P.1 sp a k) (by rw [hb.1])
    have e16 : (2 : Int) ^ 4 = 16 := rfl
    rw [e16] at hlo
    have eo : owS w sp n dv a k P = (if loW A (laT A y.1 (bfM a) k) (bfM a) k sz 16 = -1 then 0 else 1, (stc (stc P.1 dv (18 + k) (loW A (laT A y.1 (bfM a) k) (bfM a) k sz 16)) dv (20 + k) sz, gatS P.1 w n a k P.2.1, P.2.2)) := by
      unfold owS
      rw [e5, hsz, if_neg (by omega), hlo]
    have ew : wkS w sp n dv a (m + 1) k P = if (owS w sp n dv a k P).1 = 0 then (0, (owS w sp n dv a k P).2) else wkS w sp n dv a m (k + 1) (owS w sp n dv a k P).2 := rfl
    have eb : bwM A (bfM a) sz (m + 1) k y = if loW A (laT A y.1 (bfM a) k) (bfM a) k sz 16 < 0 then (0, (laT A y.1 (bfM a) k, ups y.2 k (loW A (laT A y.1 (bfM a) k) (bfM a) k sz 16))) else bwM A (bfM a) sz m (k + 1) (laT A y.1 (bfM a) k, ups y.2 k (loW A (laT A y.1 (bfM a) k) (bfM a) k sz 16)) := if_pos (by omega)
    rw [ew, eo, eb]
    dsimp only
    have hsp2 : loW A (laT A y.1 (bfM a) k) (bfM a) k sz 16 = -1 ∨ (0 ≤ loW A (laT A y.1 (bfM a) k) (bfM a) k sz 16 ∧ wiM A (bfM a) k ≠ 0 ∧ beM A (bfM a) k ≤ loW A (laT A y.1 (bfM a) k) (bfM a) k sz 16 ∧ loW A (laT A y.1 (bfM a) k) (bfM a) k sz 16 + sz ≤ beM A (bfM a) k + wiM A (bfM a) k ∧ FreL ((reT A (bfM a) k).map (prT A k)) sz (loW A (laT A y.1 (bfM a) k) (bfM a) k sz 16)) := by
      by_cases hnz : wiM A (bfM a) k = 0
      · exact Or.inl (loW_0 hnz)
      · have h2 := loW_sp (n := 4) (by omega) hTR (fun p hp => (hSm.2.2.2 p hp).1) hs hw hnz
        rw [e16] at h2
        have := hw.2.2.resolve_left hnz
        rcases h2 with ⟨q, -⟩ | ⟨q1, q2, q3, q4, -⟩
        · exact Or.inl q
        · exact Or.inr ⟨by omega, hnz, q1, q3, q4⟩
    generalize loW A (laT A y.1 (bfM a) k) (bfM a) k sz 16 = r at *
    rcases hsp2 with q | ⟨q1, q2, q3, q4, q5⟩
    · rw [if_pos q, if_pos rfl, if_pos (show r < 0 by omega)]
      exact Or.inl ⟨rfl, rfl⟩
    · rw [if_neg (show ¬ r = -1 by omega), if_neg (show ¬ (1 : Int) = 0 by omega), if_neg (show ¬ r < 0 by omega)]
      refine wk_both g hF ha hd hsp hs hsz m (k + 1) _ _ (by omega) (by omega) ⟨win_SimC h1 hd (by omega) (by omega), fun e e0 e1 => ?_, fun e f hef => ?_, fun k' kk0 kk1 => ?_⟩
      · dsimp only
        rw [gt_stc, if_neg (by omega), gt_stc, if_neg (by omega)]
        exact h2 e e0 e1
      · dsimp only
        rw [gt_stc, if_neg (by omega), gt_stc, if_neg (by omega)]
        exact h3 e f (by omega)
      · dsimp only
        rw [gt_stc, gt_stc, gt_stc, gt_stc]
        by_cases qk : k' = k
        · subst qk
          have hwn := hw.2.2.resolve_left q2
          rw [if_neg (by omega), if_pos ⟨rfl, rfl, hdr.1, hdr.2, by omega, by omega⟩, if_pos ⟨rfl, rfl, hdr.1, hdr.2, by omega, by omega⟩, ups_at]
          refine ⟨rfl, rfl, q1, q3, q4, ⟨by omega, by omega⟩, fun t ht => ?_⟩
          have hin : t ∈ reT A (bfM a) k' := (mem_reT g.1.1).mpr ⟨ht.1, ht.2.1, ht.2.2.1, (bu_iff g.1.1 (de_rg ⟨ht.1, ht.2.1⟩) (bus_rg ha)).mpr ht.2.2.2⟩
          have hf := q5 _ (List.mem_map.mpr ⟨t, hin, rfl⟩)
          have ep : prT A k' t = (bgT A t k', wdT A t k') := rfl
          rw [ep] at hf
          dsimp only at hf
          omega
        · rw [if_neg (by omega), if_neg (by omega), if_neg (by omega), if_neg (by omega), ups_ne _ _ qk]
          exact h4 k' kk0 (by omega)
end DC
