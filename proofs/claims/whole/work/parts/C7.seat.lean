/-! SEATING with moves: class and reference -/
section CH
variable {im X Y : zM} {c c' c0 s sp A B w w' T : Int → Int} {e f a b x y d k m n u un st bg en bu v sz ad dv nt i : Int} {z z0 M L : zSS} {p q r : Int → Bool}
theorem filt_len {α : Type} (p : α → Bool) : ∀ l : List α, (l.filter p).length + (l.filter (fun x => !p x)).length = l.length
  | [] => rfl
  | x :: l => by
    have := filt_len p l
    rw [List.filter_cons, List.filter_cons, List.length_cons]
    cases hp : p x
    · simp only [Bool.not_false, if_true, Bool.false_eq_true, if_false, List.length_cons]
      omega
    · simp only [Bool.not_true, if_true, Bool.false_eq_true, if_false, List.length_cons]
      omega
theorem shp_tk (hR : RC A c0 w n a dv sp) (hk : 0 ≤ k ∧ k < 2) {P : zPl} (hK : KcR A P.1 c0 k) : ∃ τM, ShP A c0 w n a k (tkP w n a k P).2.1 (tkP w n a k P).2.2.1 τM := by
  obtain ⟨g, hc, hC, hF, ha, hd, hsp⟩ := id hR
  obtain ⟨g1, g2, g3⟩ := gat_kc (z := P.2.1) hR hK hk
  have e1 : (tkP w n a k P).2.1 = gatS P.1 w n a k P.2.1 := rfl
  have e2 : (tkP w n a k P).2.2.1 = tkM (gatS P.1 w n a k P.2.1) P.2.2.1 := rfl
  rw [e1, e2]
  generalize gatS P.1 w n a k P.2.1 = B at *
  have b0 : 0 ≤ B.2.2.2.2.2 := by omega
  obtain ⟨t1, t2, t3⟩ := sh_tk (z := B) (M := P.2.2.1) b0 (by omega)
  rw [g1, (filt_map hR hk).1] at t1
  generalize tkM B P.2.2.1 = M at *
  obtain ⟨τM, m1, m2⟩ := map_idx M.2.2.2.2.2.toNat 0 (rowZ M) _ t1
  refine ⟨τM, g1, ⟨b0, g3⟩, t1, ⟨t2, by omega⟩, m2, ?_⟩
  have h1 := filt_len (fun t => decide (t < 60)) (thL c0 w n a k)
  have h2 : (thL c0 w n a k).filter (fun t => !decide (t < 60)) = fxL c0 w n a k := by
    unfold fxL
    refine List.filter_congr (fun t _ => ?_)
    rw [decide_not]
  have h3 : (thL c0 w n a k).filter (fun t => decide (t < 60)) = mvL c0 w n a k := rfl
  have h4 : ((mvL c0 w n a k).length : Int) = M.2.2.2.2.2 := by
    rw [m2, List.length_map, rgL_len]
    omega
  rw [h2, h3] at h1
  omega
theorem kind_reb (hR : RC A c0 w n a dv sp) (hk : 0 ≤ k ∧ k < 2) {P : zPl} (hK : KcR A P.1 c0 k) (r : zRb) : (flS sp dv a k 4 0 (tkP w n a k P)).2.1 = P.1 ∧ (((flS sp dv a k 4 0 (tkP w n a k P)).1 = 0 ∧ (frS A dv (bfM a) k r).1 = 0) ∨ ((flS sp dv a k 4 0 (tkP w n a k P)).1 = 1 ∧ (frS A dv (bfM a) k r).1 = 1 ∧ ∃ (nm len : Int) (τM R : Int → Int), mvL c0 w n a k = (rgL 0 nm.toNat).map τM ∧ 0 ≤ nm ∧ ChR R len nm ∧ (frS A dv (bfM a) k r).2.2.2.2.2.2.2 = len ∧ (∀ i : Int, 0 ≤ i → i < len → (frS A dv (bfM a) k r).2.2.2.1 ((frS A dv (bfM a) k r).2.2.2.2.1 i) = τM (R i)) ∧ RowX A c0 w n a k dv nm len τM R (flS sp dv a k 4 0 (tkP w n a k P)).2.2.2.2.2.1 r.2.1 (frS A dv (bfM a) k r).2.2.1 (frS A dv (bfM a) k r).2.2.2.2.2.1)) := by
  obtain ⟨τM, hS⟩ := shp_tk hR hk hK
  obtain ⟨s1, s2, s3, s4, s5, s6⟩ := id hS
  obtain ⟨l1, l2⟩ := lm_eq hR hk r.2.2.1 s4.1 s5
  have hSt : StP A c0 w n a k dv P.1 (tkP w n a k P).2.1 (tkP w n a k P).2.2.1 τM r.2.1 (tkP w n a k P) (rMn r (lmM A r.2.2.1 (bfM a) k)) := ⟨rfl, rfl, rfl, l2, l1, fun _ _ _ _ => rfl⟩
  obtain ⟨f1, f2⟩ := fl_both hR hk hK hS 4 0 (tkP w n a k P) (rMn r (lmM A r.2.2.1 (bfM a) k)) (Int.le_refl _) (by omega) hSt
  have ef : frS A dv (bfM a) k r = fwS A dv (bfM a) k 4 0 (rMn r (lmM A r.2.2.1 (bfM a) k)) := rfl
  rw [ef]
  generalize flS sp dv a k 4 0 (tkP w n a k P) = F at *
  generalize fwS A dv (bfM a) k 4 0 (rMn r (lmM A r.2.2.1 (bfM a) k)) = G at *
  obtain ⟨p1, p2, p3, p4, p5, p6⟩ := f1
  refine ⟨p1, ?_⟩
  rcases f2 with ⟨q1, q2⟩ | ⟨q1, q2, len, q3, q4, q5, q6⟩
  · exact Or.inl ⟨q1, q2⟩
  · refine Or.inr ⟨q1, q2, (tkP w n a k P).2.2.1.2.2.2.2.2, len, τM, F.2.2.2.2.2.2, s5, s4.1, q3, q4, fun i i0 i1 => ?_, q6⟩
    rw [q5 i i0 i1]
    have := q3.2.1 i i0 i1
    exact p4 _ this.1 this.2
theorem unt_kc (hR : RC A c0 w n a dv sp) (hK : KcR A c c0 k) : unt c dv k = unM A dv k := by
  obtain ⟨g, hc, hC, hF, ha, hd, hsp⟩ := id hR
  have h6 := hs3 (Cls_HsB hC) dv
  have : unt c dv k = unt c0 dv k := by
    unfold unt
    rw [hK.1 dv 6 (by omega)]
    refine lp_congr _ _ _ (fun j j0 j1 s => ?_)
    unfold usf
    rw [hK.1 dv (9 + j) (by omega), hK.1 dv (12 + j) (by omega)]
  rw [this, un_eq hc hd.1.1]
theorem tot_kc (hR : RC A c0 w n a dv sp) (hk : 0 ≤ k ∧ k < 2) (hK : KcR A c c0 k) : totS (gatS c w n a k z) = smL (fun t => wdT A t k) (reT A (bfM a) k) := by
  obtain ⟨g, hc, hC, hF, ha, hd, hsp⟩ := id hR
  obtain ⟨g1, g2, g3⟩ := gat_kc (z := z) hR hK hk
  obtain ⟨g1', g2', g3'⟩ := gat_kc (z := z) hR (KcR_refl (A := A) (c := c0) (k := k)) hk
  rw [← tot_now hc g hF (Cls_HsB hC) hk (bus_rg ha) (z := z), tot_sm (by omega) (by omega), tot_sm (by omega) (by omega), g1, g1']
theorem len_kc (hR : RC A c0 w n a dv sp) (hk : 0 ≤ k ∧ k < 2) (hK : KcR A c c0 k) : lenf c sp a k = wiM A (bfM a) k := by
  obtain ⟨g, hc, hC, hF, ha, hd, hsp⟩ := id hR
  have : lenf c sp a k = lenf c0 sp a k := by
    unfold lenf
    rw [hK.1 a (20 + k) (by omega)]
  rw [this, (beg_now hc g hsp ha hk).1]
theorem mn_sm {r : zRb} : mnM A r = smL (fun i => if r.2.2.2.2.1 i ≠ bsT A (r.2.2.1 (r.2.2.2.1 i)) then 1 else 0) (rgL 0 r.2.2.2.2.2.2.toNat) := by
  unfold mnM
  rw [lp_sm (g := fun i => if r.2.2.2.2.1 i ≠ bsT A (r.2.2.1 (r.2.2.2.1 i)) then 1 else 0) (fun i s => ?_)]
  · omega
  · unfold cntf mnB
    by_cases q : r.2.2.2.2.1 i ≠ bsT A (r.2.2.1 (r.2.2.2.1 i))
    · rw [if_pos (decide_eq_true q), if_pos q]
    · rw [if_neg (show ¬ decide (r.2.2.2.2.1 i ≠ bsT A (r.2.2.1 (r.2.2.2.1 i))) = true from fun h => q (of_decide_eq_true h)), if_neg q]
      omega
/-- REBALANCE: both kinds -/
theorem seat_reb (hR : RC A c0 w n a dv sp) : ∀ (m : Nat) (k mv : Int) (P : zPl) (y : Int × zMv × zRb), 0 ≤ k → k + m = 2 → mv = y.1 → 0 ≤ mv → 0 ≤ y.2.1.2.2 → SeR A c0 a dv k P.1 y.2.2.2.1 (Amv A y.2.1) → ((seS w sp n dv a 3 m k mv P).1 = -1 ∧ (tbK A dv (bfM a) m k y).1 = -4) ∨ (0 ≤ (seS w sp n dv a 3 m k mv P).1 ∧ (tbK A dv (bfM a) m k y).1 = (seS w sp n dv a 3 m k mv P).1 ∧ SeR A c0 a dv 2 (seS w sp n dv a 3 m k mv P).2.1 (tbK A dv (bfM a) m k y).2.2.2.1 (Amv A (tbK A dv (bfM a) m k y).2.1))
  | 0, k, mv, P, y, k0, k1, hm, m0, hy, h => by
    simp only [seS, tbK]
    have : k = 2 := by omega
    subst this
    exact Or.inr ⟨m0, hm.symm, h⟩
  | m + 1, k, mv, P, y, k0, k1, hm, m0, hy, h => by
    obtain ⟨g, hc, hC, hF, ha, hd, hsp⟩ := id hR
    have hk : 0 ≤ k ∧ k < 2 := by omega
    have hK := h.1
    have hu := unt_kc hR hK
    have hnn := un_nn (A := A) (k := k) g.1.1 (th_rg hd.1.1)
    have e4 : ((3 : Int) + 1).toNat = 4 := rfl
    simp only [seS, tbK]
    rw [e4, hu]
    by_cases c1 : unM A dv k = 0
    · rw [if_pos c1, if_neg (show ¬ 0 < unM A dv k by omega)]
      exact seat_reb hR m (k + 1) mv P y (by omega) (by omega) hm m0 hy (se_skip hR hk h c1)
    · rw [if_neg c1, if_pos (show 0 < unM A dv k by omega)]
      obtain ⟨f1, f2⟩ := kind_reb hR hk (P := P) hK y.2.2
      have htot := tot_kc (z := P.2.1) hR hk hK
      have hlen := len_kc hR hk hK
      generalize flS sp dv a k 4 0 (tkP w n a k P) = F at *
      generalize frS A dv (bfM a) k y.2.2 = G at *
      rcases f2 with ⟨q1, q2⟩ | ⟨q1, q2, nm, len, τM, R, x1, x2, x3, x4, x5, x6⟩
      · left
        rw [if_neg (show ¬ G.1 = 1 by omega), if_neg (show ¬ F.1 = 1 by omega)]
        refine ⟨?_, rfl⟩
        split <;> rfl
      · have hK' : KcR A F.2.1 c0 k := by rw [f1]; exact hK
        obtain ⟨s1, s2, s3, s4, s5, s6, s7⟩ := set_kind hR hk hK' x1 x2 x3 x6
        rw [if_pos q2, if_pos q1, htot, hlen, if_pos s7]
        have hr1 : ∀ i j : Int, 0 ≤ i → i < j → j < len → τM (R i) ≠ τM (R j) := fun i j i0 ij j1 q => by
          have hi := x3.2.1 i i0 (by omega)
          have hj := x3.2.1 j (by omega) j1
          have := τM_inj hR x1 hi.1 hi.2 hj.1 hj.2 q
          have := x3.2.2 i j i0 ij j1
          omega
        have hr2 : ∀ i : Int, 0 ≤ i → i < len → 0 ≤ τM (R i) := fun i i0 i1 => ((mem_mvL hR hk).mp (mem_cho x1 x3 i0 i1)).1.1
        obtain ⟨a0, a1, a2⟩ := Amv_run (A := A) (r := G.2) (τ := fun i => τM (R i)) (len := len) x5 hr2 hr1 len.toNat 0 y.2.1 (Int.le_refl _) (by have := x3.1; omega) hy
        have hmn : mnM A G.2 = (stS F.2.2.2.2.2.1 dv F.2.1).1 := by
          rw [s5, mn_sm, x4]
          refine smL_congr _ (fun i hi => ?_)
          have hi := (mem_rgL _ _ _).mp hi
          rw [x5 i hi.1 (by omega)]
        have hmp : 0 ≤ (stS F.2.2.2.2.2.1 dv F.2.1).1 := by
          rw [s5]
          exact smL_nn _ (fun i _ => by split <;> omega)
        refine seat_reb hR m (k + 1) _ _ _ (by omega) (by omega) ?_ ?_ ?_ ?_
        · dsimp only
          rw [hmn, hm]
        · omega
        · dsimp only
          rw [x4]
          exact a0
        · have e1 : (seP dv F.2).1 = (stS F.2.2.2.2.2.1 dv F.2.1).2 := rfl
          rw [e1]
          dsimp only
          rw [x4]
          refine se_step hR hk (c := F.2.1) (by rw [f1]; exact h) x1 x2 x3 x6 (fun i i0 i1 => a1 i i0 i1) (fun j hj => a2 j hj)
end CH
