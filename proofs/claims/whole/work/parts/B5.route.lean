/-! THE STEPS owner, way, peer -/
section BP
variable {im X Y : zM} {c c' s sp A B w w' T : Int → Int} {e f a b x y d k m n u un st bg en bu v sz ad : Int} {z : zSS} {p q r : Int → Bool}
theorem hdf_sp (ap bs sz : Int → Int) (ad : Int) : ∀ (n : Nat) (i w : Int), ((∀ j : Int, i ≤ j → j < i + n → ¬ (0 ≤ bs j ∧ bs j ≤ ad ∧ ad - bs j < sz j)) → hdf ap bs sz ad n i w = w) ∧ ((∃ j : Int, i ≤ j ∧ j < i + n ∧ (0 ≤ bs j ∧ bs j ≤ ad ∧ ad - bs j < sz j)) → i ≤ hdf ap bs sz ad n i w ∧ hdf ap bs sz ad n i w < i + n ∧ (0 ≤ bs (hdf ap bs sz ad n i w) ∧ bs (hdf ap bs sz ad n i w) ≤ ad ∧ ad - bs (hdf ap bs sz ad n i w) < sz (hdf ap bs sz ad n i w)))
  | 0, i, w => ⟨fun _ => rfl, fun ⟨j, j0, j1, _⟩ => by omega⟩
  | n + 1, i, w => by
    simp only [hdf]
    by_cases q : 0 ≤ bs i ∧ bs i ≤ ad ∧ ad - bs i < sz i
    · rw [if_pos q]
      refine ⟨fun h => absurd q (h i (by omega) (by omega)), fun _ => ?_⟩
      by_cases q2 : ap i = -1
      · rw [if_pos q2]
        obtain ⟨h1, h2⟩ := hdf_sp ap bs sz ad n (i + 1) i
        by_cases q3 : ∃ j : Int, i + 1 ≤ j ∧ j < i + 1 + n ∧ (0 ≤ bs j ∧ bs j ≤ ad ∧ ad - bs j < sz j)
        · obtain ⟨g1, g2, g3⟩ := h2 q3
          exact ⟨by omega, by omega, g3⟩
        · rw [h1 (fun j j0 j1 hj => q3 ⟨j, j0, j1, hj⟩)]
          exact ⟨by omega, by omega, q⟩
      · rw [if_neg q2]
        exact ⟨by omega, by omega, q⟩
    · rw [if_neg q]
      obtain ⟨h1, h2⟩ := hdf_sp ap bs sz ad n (i + 1) w
      refine ⟨fun h => h1 (fun j j0 j1 => h j (by omega) (by omega)), fun ⟨j, j0, j1, hj⟩ => ?_⟩
      have hne : j ≠ i := fun r => q (r ▸ hj)
      obtain ⟨g1, g2, g3⟩ := h2 ⟨j, by omega, by omega, hj⟩
      exact ⟨by omega, by omega, g3⟩
theorem ow_iff (hM : MG A) (he : 0 ≤ e ∧ e < 20) : owB A bu k ad e = true ↔ ∃ t, 0 ≤ t ∧ t < 60 ∧ deM t = e ∧ itM A t k ∧ buM A e = bu ∧ hdP (bgT A t k) (wdT A t k) ad := by
  have h5 := MG_many hM he
  unfold owB
  rw [decide_eq_true_eq]
  constructor
  · rintro ⟨q1, q2, q3⟩
    obtain ⟨a0, a1, a2⟩ := (ff_cases (owI A k ad e) (A (23 * e + 5)).toNat 0).resolve_left q3
    obtain ⟨r1, r2⟩ := of_decide_eq_true a2
    generalize ff (owI A k ad e) (A (23 * e + 5)).toNat 0 = x at *
    obtain ⟨d1, d2, d3, d4⟩ := de_ap he.1 he.2 a0 (show x < 3 by omega)
    have hp := prT_ap (A := A) (k := k) he.1 he.2 a0 (show x < 3 by omega)
    unfold prT at hp
    rw [Prod.mk.injEq] at hp
    refine ⟨3 * e + x, by omega, d4, d1, ⟨by rw [d1]; exact q1, ?_⟩, q2, by rw [hp.1, hp.2]; exact r2⟩
    rw [if_pos d4, d1, d3]
    exact ⟨by omega, r1⟩
  · rintro ⟨t, t0, t1, rfl, ⟨ho, hi⟩, hb, hh⟩
    rw [if_pos t1] at hi
    have hd : deM t = t / 3 := if_pos t1
    refine ⟨ho, hb, fun q => ?_⟩
    have := ff_none _ 0 (by omega) q (t % 3) (by omega) (by omega)
    unfold owI at this
    refine of_decide_eq_false this ⟨hi.2, ?_⟩
    unfold bgT wdT bsT szT at hh
    rw [if_pos t1, if_pos t1] at hh
    rw [hd]
    exact hh
theorem wi_iff (he : 0 ≤ e ∧ e < 20) : wiB A bu k ad e = true ↔ itM A (60 + e) k ∧ buM A e = bu ∧ hdP (bgT A (60 + e) k) (wdT A (60 + e) k) ad := by
  obtain ⟨d1, d2, d3⟩ := de_br he.1
  have hp := prT_br (A := A) (k := k) he.1
  unfold prT at hp
  rw [Prod.mk.injEq] at hp
  unfold wiB
  rw [decide_eq_true_eq, hp.1, hp.2]
  constructor
  · rintro ⟨q1, q2, q3⟩
    exact ⟨⟨by rw [d1]; exact q1, by rw [if_neg d3, d1]; exact q3.1⟩, q2, q3⟩
  · rintro ⟨⟨q1, -⟩, q2, q3⟩
    rw [d1] at q1
    exact ⟨q1, q2, q3⟩
theorem ff_at {n : Nat} (h0 : 0 ≤ e) (h1 : e < n) (hp : p e = true) (hu : ∀ j : Int, 0 ≤ j → j < n → p j = true → j = e) : ff p n 0 = e := by
  rcases ff_cases p n 0 with q | ⟨q0, q1, q2⟩
  · have := ff_none n 0 (by omega) q e h0 (by omega)
    rw [hp] at this
    exact absurd this (by decide)
  · exact hu _ q0 (by omega) q2
/-- who holds an address on a bus -/
theorem bus_hold (hc : SimC c A) (g : gGd A) (hF : WkF A w n) (h6 : HsB c) (ha : a = -1 ∨ onBr A a) (hk : 0 ≤ k ∧ k < 2) (z : zSS) (ad : Int) : (holdS (gatS c w n a k z) ad = -1 ∧ owM A (bfM a) k ad = -1 ∧ wiO A (bfM a) k ad = -1) ∨ (∃ e, onM A e ∧ A (23 * e + 2) = a ∧ holdS (gatS c w n a k z) ad ≠ -1 ∧ (gatS c w n a k z).1 (holdS (gatS c w n a k z) ad) = e ∧ (((gatS c w n a k z).2.1 (holdS (gatS c w n a k z) ad) ≠ -1 ∧ owM A (bfM a) k ad = e) ∨ ((gatS c w n a k z).2.1 (holdS (gatS c w n a k z) ad) = -1 ∧ onBr A e ∧ owM A (bfM a) k ad = -1 ∧ wiO A (bfM a) k ad = e))) := by
  obtain ⟨h1, τ, h2, h3, h4⟩ := sh_idx (a := a) hc g hF h6 hk (y' := z) rfl
  generalize gatS c w n a k z = Z at *
  have hsp := hdf_sp Z.2.1 Z.2.2.2.2.1 Z.2.2.2.1 ad (min Z.2.2.2.2.2 27).toNat 0 (-1)
  have hcond : ∀ i : Int, 0 ≤ i → i < Z.2.2.2.2.2 → ((0 ≤ Z.2.2.2.2.1 i ∧ Z.2.2.2.2.1 i ≤ ad ∧ ad - Z.2.2.2.2.1 i < Z.2.2.2.1 i) ↔ hdP (bgT A (τ i) k) (wdT A (τ i) k) ad) := fun i i0 i1 => by
    obtain ⟨⟨e1, e2, e3, e4⟩, t0, t1, ti, ta⟩ := h2 i i0 i1
    have := (g.2.2.2.2.2.1 (τ i) k t0 t1 hk.1 hk.2 ti).2.2.2.1
    rw [e3, e4]
    unfold hdP
    omega
  have huq : ∀ t o, ThN A a k t → ThN A a k o → hdP (bgT A t k) (wdT A t k) ad → hdP (bgT A o k) (wdT A o k) ad → t = o := fun t o ht ho q1 q2 => by
    by_cases hne : t = o
    · exact hne
    · have := g.2.2.2.2.2.2 t o k ht.1 ht.2.1 ho.1 ho.2.1 hne hk.1 hk.2 ht.2.2.1 ho.2.2.1 (by rw [ht.2.2.2, ho.2.2.2])
      unfold hdP at q1 q2
      omega
  have hthn : ∀ t, 0 ≤ t → t < 80 → itM A t k → buM A (deM t) = bfM a → ThN A a k t := fun t t0 t1 ti tb => ⟨t0, t1, ti, (bu_iff g.1.1 (de_rg ⟨t0, t1⟩) (bus_rg ha)).mp tb⟩
  by_cases ex : ∃ t, ThN A a k t ∧ hdP (bgT A t k) (wdT A t k) ad
  · obtain ⟨t, ht, hh⟩ := ex
    obtain ⟨i, i0, i1, i2⟩ := h3 t ht
    have hr := hsp.2 ⟨i, i0, by omega, (hcond i i0 i1).mpr (by rw [i2]; exact hh)⟩
    right
    have hd := de_rg ⟨ht.1, ht.2.1⟩
    have hre : holdS Z ad = hdf Z.2.1 Z.2.2.2.2.1 Z.2.2.2.1 ad (min Z.2.2.2.2.2 27).toNat 0 (-1) := rfl
    rw [← hre] at hr
    generalize holdS Z ad = R at *
    have hRt : τ R = t := huq _ _ (h2 R hr.1 (by omega)).2 ht ((hcond R hr.1 (by omega)).mp hr.2.2) hh
    obtain ⟨⟨e1, e2, e3, e4⟩, -⟩ := h2 R hr.1 (by omega)
    rw [hRt] at e1 e2
    have hbu : buM A (deM t) = bfM a := (bu_iff g.1.1 hd (bus_rg ha)).mpr ht.2.2.2
    refine ⟨deM t, ht.2.2.1.1, ht.2.2.2, by omega, e1, ?_⟩
    by_cases c1 : t < 60
    · left
      refine ⟨?_, ?_⟩
      · rw [e2]
        unfold apV
        rw [if_pos c1]
        have := ht.1
        omega
      · unfold owM
        refine ff_at hd.1 hd.2 ((ow_iff g.1.1 hd).mpr ⟨t, ht.1, c1, rfl, ht.2.2.1, hbu, hh⟩) (fun j j0 j1 hj => ?_)
        obtain ⟨o, o0, o1, o2, o3, o4, o5⟩ := (ow_iff g.1.1 ⟨j0, by omega⟩).mp hj
        rw [← huq o t (hthn o o0 (by omega) o3 (by rw [o2]; exact o4)) ht o5 hh, o2]
    · right
      have hdt : deM t = t - 60 := if_neg c1
      have e60 : 60 + deM t = t := by omega
      refine ⟨?_, ?_, ?_, ?_⟩
      · rw [e2]
        unfold apV
        rw [if_neg c1]
      · refine ⟨ht.2.2.1.1, ?_⟩
        rcases (hc _ hd.1 hd.2).1 with s | s
        · have h0 := g.1.2.2.2.2.2.2.2.2 _ k ⟨ht.2.2.1.1.1, s⟩ hk.1 hk.2
          have hi := ht.2.2.1.2
          rw [if_neg c1] at hi
          omega
        · exact s
      · unfold owM
        refine ff_neg 20 0 (fun j j0 j1 => Bool.eq_false_iff.mpr (fun hj => ?_))
        obtain ⟨o, o0, o1, o2, o3, o4, o5⟩ := (ow_iff g.1.1 ⟨j0, by omega⟩).mp hj
        have := huq o t (hthn o o0 (by omega) o3 (by rw [o2]; exact o4)) ht o5 hh
        omega
      · unfold wiO
        refine ff_at hd.1 hd.2 ((wi_iff hd).mpr ⟨by rw [e60]; exact ht.2.2.1, hbu, by rw [e60]; exact hh⟩) (fun j j0 j1 hj => ?_)
        obtain ⟨o1, o2, o3⟩ := (wi_iff ⟨j0, by omega⟩).mp hj
        have hdj : deM (60 + j) = j := (de_br j0).1
        have := huq (60 + j) t (hthn _ (by omega) (by omega) o1 (by rw [hdj]; exact o2)) ht o3 hh
        omega
  · left
    refine ⟨?_, ?_, ?_⟩
    · exact hsp.1 (fun j j0 j1 hj => ex ⟨τ j, (h2 j j0 (by omega)).2, (hcond j j0 (by omega)).mp hj⟩)
    · unfold owM
      refine ff_neg 20 0 (fun j j0 j1 => Bool.eq_false_iff.mpr (fun hj => ?_))
      obtain ⟨o, o0, o1, o2, o3, o4, o5⟩ := (ow_iff g.1.1 ⟨j0, by omega⟩).mp hj
      exact ex ⟨o, hthn o o0 (by omega) o3 (by rw [o2]; exact o4), o5⟩
    · unfold wiO
      refine ff_neg 20 0 (fun j j0 j1 => Bool.eq_false_iff.mpr (fun hj => ?_))
      obtain ⟨o1, o2, o3⟩ := (wi_iff ⟨j0, by omega⟩).mp hj
      exact ex ⟨60 + j, hthn _ (by omega) (by omega) o1 (by rw [(de_br j0).1]; exact o2), o3⟩
theorem le_bus (hs : gS A) (he : thM A e) (ha : A (23 * e + 2) = a) : leM A e = lbM A a := by
  unfold lbM
  rcases le_rec hs he with ⟨q, q1⟩ | ⟨q, q1⟩
  · rw [if_pos (by omega)]
    exact q1
  · rw [if_neg (by have := q.1.1; omega), q1, ha]
theorem lb_br (hb : onBr A e) : lbM A e = leM A e + 1 := if_neg (by have := hb.1.1.1; omega)
theorem lb_nn (a : Int) : 0 ≤ lbM A a := by
  unfold lbM
  split
  · omega
  · have := le_bd A a
    omega
theorem bf_br (hb : onBr A e) : bfM e = e := if_neg (by have := hb.1.1.1; omega)
theorem fl_done {m : Nat} (h : 0 ≤ f ∨ b < 0) : flM A k ad m b x f = (x, f) ∧ FlP A k ad m b f := by
  cases m with
  | zero => exact ⟨rfl, fun q => by omega⟩
  | succ m => exact ⟨if_neg (fun q => by omega), fun q => by omega⟩
theorem fl_mono : ∀ (m : Nat) (b x f : Int), x ≤ (flM A k ad m b x f).1
  | 0, b, x, f => Int.le_refl _
  | m + 1, b, x, f => by
    simp only [flM]
    split
    · have := fl_mono m (wiO A b k ad) (x + 1) (owM A b k ad)
      omega
    · exact Int.le_refl _
/-- down from a bus: class and reference -/
theorem sn_eq (hc : SimC c A) (g : gGd A) (hF : WkF A w n) (h6 : HsB c) (hk : 0 ≤ k ∧ k < 2) : ∀ (m : Nat) (lv a : Int) (y : zSS × (Int → Int)) (m' : Nat), (a = -1 ∨ onBr A a) → 5 ≤ m + lbM A a → 5 ≤ lv + m → 0 ≤ lv → y.2 1 = -1 → 6 ≤ m' + lbM A a → (snS c w n k ad m lv a y).2.2 1 = (flM A k ad m' (wiO A (bfM a) k ad) (y.2 2) (owM A (bfM a) k ad)).2 ∧ (snS c w n k ad m lv a y).2.2 2 = (flM A k ad m' (wiO A (bfM a) k ad) (y.2 2) (owM A (bfM a) k ad)).1 ∧ (snS c w n k ad m lv a y).2.2 3 = y.2 3 ∧ FlP A k ad m' (wiO A (bfM a) k ad) (owM A (bfM a) k ad) ∧ (snS c w n k ad m lv a y).1 = (if lv = 0 ∧ owM A (bfM a) k ad = -1 ∧ wiO A (bfM a) k ad = -1 then 0 else 1)
  | 0, lv, a, y, m', ha, hl, hlv, h0, hy, hm' => by
    have hs := gT_S g.1
    have hno : owM A (bfM a) k ad = -1 ∧ wiO A (bfM a) k ad = -1 := by
      rcases bus_hold hc g hF h6 ha hk y.1 ad with ⟨-, q1, q2⟩ | ⟨e, q1, q2, -⟩
      · exact ⟨q1, q2⟩
      · have := le_bus hs q1.1 q2
        have := le_bd A e
        omega
    obtain ⟨d1, d2⟩ := fl_done (A := A) (k := k) (ad := ad) (m := m') (b := wiO A (bfM a) k ad) (f := owM A (bfM a) k ad) (x := y.2 2) (Or.inr (by omega))
    rw [d1, hno.1]
    simp only [snS]
    refine ⟨hy, trivial, trivial, ?_, ?_⟩
    · rw [hno.1] at d2
      exact d2
    · rw [if_neg (fun q => by omega)]
  | m + 1, lv, a, y, m', ha, hl, hlv, h0, hy, hm' => by
    have hs := gT_S g.1
    simp only [snS]
    rcases bus_hold hc g hF h6 ha hk y.1 ad with ⟨q0, q1, q2⟩ | ⟨e, q1, q2, q3, q4, q5⟩
    · obtain ⟨d1, d2⟩ := fl_done (A := A) (k := k) (ad := ad) (m := m') (b := wiO A (bfM a) k ad) (f := owM A (bfM a) k ad) (x := y.2 2) (Or.inr (by omega))
      rw [d1, if_pos q0]
      refine ⟨by rw [hy, q1], rfl, rfl, d2, ?_⟩
      by_cases c1 : lv = 0
      · rw [if_neg (by omega), if_pos ⟨c1, q1, q2⟩]
      · rw [if_pos (by omega), if_neg (fun r => c1 r.1)]
    · rw [if_neg q3]
      rcases q5 with ⟨r1, r2⟩ | ⟨r1, r2, r3, r4⟩
      · have he := q1.1.1
        obtain ⟨d1, d2⟩ := fl_done (A := A) (k := k) (ad := ad) (m := m') (b := wiO A (bfM a) k ad) (f := owM A (bfM a) k ad) (x := y.2 2) (Or.inl (by omega))
        rw [d1, if_neg r1]
        dsimp only
        refine ⟨?_, ?_, ?_, d2, ?_⟩
        · rw [ups_at, q4, r2]
        · rw [ups_ne _ _ (by omega)]
        · rw [ups_ne _ _ (by omega)]
        · rw [if_neg (fun s => by omega)]
      · rw [if_pos r1, q4]
        have hle := le_bus hs q1.1 q2
        have hlb := lb_br r2
        have hbe := le_bd A e
        match m', hm' with
        | 0, hm' => omega
        | m' + 1, hm' =>
          have he := q1.1.1
          obtain ⟨i1, i2, i3, i4, i5⟩ := sn_eq hc g hF h6 hk m (lv + 1) e (gatS c w n a k y.1, ups y.2 2 (y.2 2 + 1)) m' (Or.inr r2) (by omega) (by omega) (by omega) (by dsimp only; rw [ups_ne _ _ (by omega)]; exact hy) (by omega)
          dsimp only at i1 i2 i3
          rw [ups_ne _ _ (by omega)] at i3
          rw [ups_at] at i1 i2
          rw [bf_br r2] at i1 i2 i4 i5
          rw [show flM A k ad (m' + 1) (wiO A (bfM a) k ad) (y.2 2) (owM A (bfM a) k ad) = if owM A (bfM a) k ad < 0 ∧ 0 ≤ wiO A (bfM a) k ad then flM A k ad m' (wiO A (wiO A (bfM a) k ad) k ad) (y.2 2 + 1) (owM A (wiO A (bfM a) k ad) k ad) else (y.2 2, owM A (bfM a) k ad) from rfl, if_pos ⟨by omega, by omega⟩, r4]
          refine ⟨i1, i2, i3, fun _ => ?_, ?_⟩
          · exact i4
          · rw [i5, if_neg (fun s => by omega), if_neg (fun s => by omega)]
theorem SnOK_now (hC : Cls c) (hk : 0 ≤ k ∧ k < 2) : SnOK c w n k := fun a z i i0 i1 i2 => by
  have h := (SG_gat (w := w) (n := n) (a := a) (z := z) (Cls_TG hC) hk).2.2 i i0 i2
  unfold pG at h
  omega
theorem Inv_rt (hI : Inv gGd im) {Z : zM} (hZ : ∀ p : Nat, (p < 164 ∨ 170 < p) → p ≠ 171 → Z p = im p) (h171 : Z 171 32 = im 171 32 ∧ Z 171 33 = im 171 33) : Inv gGd Z := by
  refine Inv_of gGd_ok hI (fun p hp => hZ p (by omega) (by omega)) h171 (fun j _ _ => by rw [hZ 172 (by omega) (by omega)]) (fun p hp => hZ p (by omega) (by omega)) ⟨?_, ?_, ?_⟩
  · rw [hZ 163 (by omega) (by omega)]
    exact hI.2.2.1
  · rw [hZ 184 (by omega) (by omega)]
    exact hI.2.2.2.1
  · rw [hZ 176 (by omega) (by omega)]
    exact hI.2.2.2.2
theorem dse_1 {a : Int} (e : Int → Int) : dse e a 1 = -1 ∧ dse e a 2 = 0 ∧ dse e a 3 = a := by
  unfold dse
  rw [ups_ne _ _ (by omega), ups_ne _ _ (by omega), ups_at, ups_ne _ _ (by omega), ups_at, ups_at]
  exact ⟨rfl, rfl, rfl⟩
theorem sp_owner : Sp2 99 (Inv gGd) 104 233 := by
  intro im hI k _ v hv
  have hc := Inv_c hI
  have g := Inv_g hI
  have hF := Inv_F hI
  have hC := Inv_Cls hI
  have hv' : -2147483648 ≤ v ∧ v ≤ 2147483647 := hv
  have hf : ∀ k : Int, 0 ≤ k → k < 2 → FlP (im 172) k v 6 (wiO (im 172) 20 k v) (owM (im 172) 20 k v) := fun k k0 k1 => (sn_eq hc g hF (Cls_HsB hC) ⟨k0, k1⟩ (ad := v) 5 0 (-1) (gsh im 165, dse (im 164) (-1)) 6 (Or.inl rfl) (by have := lb_nn (A := im 172) (-1); omega) (by omega) (by omega) (dse_1 (a := -1) (im 164)).1 (by have := lb_nn (A := im 172) (-1); omega)).2.2.2.1
  refine (c_owner (d := 93) (Inv_hh hI) rfl hF.1.2 (Cls_TB hC) hv' (fun hk => SnOK_now hC hk)).mpr ?_
  by_cases c1 : 0 ≤ k ∧ k < 2
  · rw [if_pos c1]
    have h1 := sn_eq hc g hF (Cls_HsB hC) c1 (ad := v) 5 0 (-1) (gsh im 165, dse (im 164) (-1)) 6 (Or.inl rfl) (by have := lb_nn (A := im 172) (-1); omega) (by omega) (by omega) (dse_1 (a := -1) (im 164)).1 (by have := lb_nn (A := im 172) (-1); omega)
    have e172 : ∀ z e, rt im z e 172 = im 172 := fun z e => rt_ne (by omega)
    refine ⟨_, rfl, (c_ownerM (d := 94) (by rw [e172]; exact g.1.1) hv' (by rw [e172]; exact fun b k k0 k1 => tk_now g ⟨k0, k1⟩) (by rw [e172]; exact hf)).mpr ?_⟩
    rw [if_pos (show 0 ≤ k ∧ k ≤ 1 by omega), e172]
    refine ⟨?_, Inv_rt hI (fun p h2 h3 => ?_) ⟨?_, ?_⟩⟩
    · unfold dsS foM
      have e2 : ((gsh im 165, dse (im 164) (-1)) : zSS × (Int → Int)).2 2 = 0 := (dse_1 (a := -1) (im 164)).2.1
      rw [h1.1, e2]
      rfl
    · unfold wfm
      rw [setc_ne _ _ h3, rt_ne (by omega)]
    · unfold wfm
      rw [setc_at, ups_ne _ _ (by omega), ups_ne _ _ (by omega), rt_ne (by omega)]
    · unfold wfm
      rw [setc_at, ups_ne _ _ (by omega), ups_ne _ _ (by omega), rt_ne (by omega)]
  · rw [if_neg c1]
    refine ⟨_, rfl, (c_ownerM (d := 94) g.1.1 hv' (fun b k k0 k1 => tk_now g ⟨k0, k1⟩) hf).mpr ?_⟩
    rw [if_neg (by omega)]
    exact ⟨rfl, hI⟩
theorem sp_way : Sp2 99 (Inv gGd) 105 234 := by
  intro im hI k _ v hv
  have hc := Inv_c hI
  have g := Inv_g hI
  have hF := Inv_F hI
  have hC := Inv_Cls hI
  have hv' : -2147483648 ≤ v ∧ v ≤ 2147483647 := hv
  have hf : ∀ k : Int, 0 ≤ k → k < 2 → FlP (im 172) k v 6 (wiO (im 172) 20 k v) (owM (im 172) 20 k v) := fun k k0 k1 => (sn_eq hc g hF (Cls_HsB hC) ⟨k0, k1⟩ (ad := v) 5 0 (-1) (gsh im 165, dse (im 164) (-1)) 6 (Or.inl rfl) (by have := lb_nn (A := im 172) (-1); omega) (by omega) (by omega) (dse_1 (a := -1) (im 164)).1 (by have := lb_nn (A := im 172) (-1); omega)).2.2.2.1
  refine (c_way (d := 93) (Inv_hh hI) rfl hF.1.2 (Cls_TB hC) hv' (fun hk => SnOK_now hC hk)).mpr ?_
  by_cases c1 : 0 ≤ k ∧ k < 2
  · rw [if_pos c1]
    have h1 := sn_eq hc g hF (Cls_HsB hC) c1 (ad := v) 5 0 (-1) (gsh im 165, dse (im 164) (-1)) 6 (Or.inl rfl) (by have := lb_nn (A := im 172) (-1); omega) (by omega) (by omega) (dse_1 (a := -1) (im 164)).1 (by have := lb_nn (A := im 172) (-1); omega)
    have e172 : ∀ z e, rt im z e 172 = im 172 := fun z e => rt_ne (by omega)
    refine ⟨_, rfl, (c_wayM (d := 94) (by rw [e172]; exact g.1.1) hv' (by rw [e172]; exact fun b k k0 k1 => tk_now g ⟨k0, k1⟩) (by rw [e172]; exact hf)).mpr ?_⟩
    rw [if_pos (show 0 ≤ k ∧ k ≤ 1 by omega), e172]
    refine ⟨?_, Inv_rt hI (fun p h2 h3 => ?_) ⟨?_, ?_⟩⟩
    · unfold dsS foM
      have e2 : ((gsh im 165, dse (im 164) (-1)) : zSS × (Int → Int)).2 2 = 0 := (dse_1 (a := -1) (im 164)).2.1
      rw [h1.2.2.2.2, h1.2.1, e2]
      have e20 : bfM (-1) = 20 := rfl
      rw [e20]
      have bo := owM_bd (A := im 172) (bu := 20) (k := k) (ad := v)
      have bw := wiO_bd (A := im 172) (bu := 20) (k := k) (ad := v)
      by_cases c2 : owM (im 172) 20 k v = -1 ∧ wiO (im 172) 20 k v = -1
      · obtain ⟨d1, -⟩ := fl_done (A := im 172) (k := k) (ad := v) (m := 6) (b := wiO (im 172) 20 k v) (f := owM (im 172) 20 k v) (x := 0) (Or.inr (by omega))
        rw [d1]
        dsimp only
        rw [if_pos ⟨rfl, by omega⟩, if_pos (show (if (0 : Int) = 0 ∧ owM (im 172) 20 k v = -1 ∧ wiO (im 172) 20 k v = -1 then (0 : Int) else 1) = 0 from if_pos ⟨rfl, c2.1, c2.2⟩)]
      · rw [if_neg (show ¬ (if (0 : Int) = 0 ∧ owM (im 172) 20 k v = -1 ∧ wiO (im 172) 20 k v = -1 then (0 : Int) else 1) = 0 from by
          rw [if_neg (fun q => c2 ⟨q.2.1, q.2.2⟩)]
          decide)]
        rw [if_neg]
        rintro ⟨q1, q2⟩
        by_cases c3 : 0 ≤ owM (im 172) 20 k v
        · obtain ⟨d1, -⟩ := fl_done (A := im 172) (k := k) (ad := v) (m := 6) (b := wiO (im 172) 20 k v) (f := owM (im 172) 20 k v) (x := 0) (Or.inl c3)
          rw [d1] at q2
          dsimp only at q2
          omega
        · have hm := fl_mono (A := im 172) (k := k) (ad := v) 5 (wiO (im 172) (wiO (im 172) 20 k v) k v) (0 + 1) (owM (im 172) (wiO (im 172) 20 k v) k v)
          rw [show flM (im 172) k v 6 (wiO (im 172) 20 k v) 0 (owM (im 172) 20 k v) = if owM (im 172) 20 k v < 0 ∧ 0 ≤ wiO (im 172) 20 k v then flM (im 172) k v 5 (wiO (im 172) (wiO (im 172) 20 k v) k v) (0 + 1) (owM (im 172) (wiO (im 172) 20 k v) k v) else (0, owM (im 172) 20 k v) from rfl, if_pos (by omega)] at q1
          omega
    · unfold wfm
      rw [setc_ne _ _ h3, rt_ne (by omega)]
    · unfold wfm
      rw [setc_at, ups_ne _ _ (by omega), ups_ne _ _ (by omega), rt_ne (by omega)]
    · unfold wfm
      rw [setc_at, ups_ne _ _ (by omega), ups_ne _ _ (by omega), rt_ne (by omega)]
  · rw [if_neg c1]
    refine ⟨_, rfl, (c_wayM (d := 94) g.1.1 hv' (fun b k k0 k1 => tk_now g ⟨k0, k1⟩) hf).mpr ?_⟩
    rw [if_neg (by omega)]
    exact ⟨rfl, hI⟩
end BP
