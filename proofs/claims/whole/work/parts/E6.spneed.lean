/-! THE STEPS need and align -/
section EG
variable {im X Y : zM} {A B S P D S' P' D' c c' c0 w N G N' G' τ al sz bs' : Int → Int} {on : Int → Bool} {e f a b k t x y v n d i : Int} {l l' : List Int} {z : zSS}
theorem ms_oneb (g : gT A) (hF : WkF A w n) (hon : ∀ e, on e = true → thM A e) (hk : 0 ≤ k ∧ k < 2) (hm : MeC c A on) (h20 : ∀ e, on e = true → 0 ≤ gt c e (20 + k)) (he : on e = true) (hbr : A (23 * e + 1) = 1) (hx : ∀ x, on x = true → A (23 * x + 2) = e → A (23 * x + 1) = 1 → (0 ≤ gt c x (20 + k) ∧ gt c x (20 + k) ≤ bdS (4 - leM A x).toNat) ∧ ∃ q : Nat, q ≤ 8 ∧ gt c x (22 + k) = 2 ^ q) : ∃ l D v1 v2, BusL A on k (szC c k) (alC c k) e l ∧ lyD (szC c k) (alC c k) D l 0 ∧ v1 = rupM (lyE (szC c k) (alC c k) l 0 + A (23 * e + 16)) 16 ∧ v2 = max 16 (lyG (alC c k) l) ∧ rup ((ndS c w n e k z).1 + gt c e 5) 16 = v1 ∧ max 16 (galS (ndS c w n e k z).2) = v2 ∧ (0 ≤ v1 ∧ v1 ≤ bdS (4 - leM A e).toNat) ∧ ∃ q : Nat, q ≤ 8 ∧ v2 = 2 ^ q := by
  have hs := gT_S g
  have hth := hon e he
  have hr := th_rg hth
  have hbd : ∀ t, itP A on (szC c k) k e t → (0 ≤ szC c k t ∧ szC c k t ≤ 8000000) ∧ ∃ q : Nat, q ≤ 8 ∧ alC c k t = 2 ^ q := fun t ht => by
    by_cases h6 : t < 60
    · obtain ⟨h1, h2, q, q1, q2⟩ := me_ap g hon hm ht h6
      have hp := pow_le8 q q1
      exact ⟨by omega, q, q1, by omega⟩
    · obtain ⟨h1, h2⟩ := br_cells (c := c) (k := k) h6
      obtain ⟨e1, e2⟩ := it_br ht h6
      obtain ⟨u1, u2⟩ := hx _ ht.2.2.1 ht.2.2.2.1 e2
      have hb8 := bdS_le (leM_bd (A := A) (e := deM t))
      rw [h1, h2]
      exact ⟨by omega, u2⟩
  obtain ⟨l, D, h1, h2, h3, h4, h5, h6, h7⟩ := nd_sp (z := z) (a := e) (k := k) g hF hon hm h20 hbd
  have h16 := (g.1 e hr.1 hr.2).2.2.2.2.2.2.2.1
  have e5 : gt c e 5 = A (23 * e + 16) := (hm.2.1 e hth).2.2.2.1
  have hlv := leM_bd (A := A) (e := e)
  have hlx : ∀ x, on x = true → A (23 * x + 2) = e → leM A x = leM A e + 1 := fun x hx hp => by
    rcases le_rec hs (hon x hx) with ⟨q1, q2⟩ | ⟨q1, q2⟩
    · omega
    · rw [hp] at q2
      exact q2
  have hbd2 : (0 ≤ lyE (szC c k) (alC c k) l 0 ∧ lyE (szC c k) (alC c k) l 0 + 143 ≤ bdS (4 - leM A e).toNat) := by
    by_cases h4' : leM A e = 4
    · have hnil : l = [] := by
        cases l with
        | nil => rfl
        | cons t l =>
          have ht := (h1.2 t).mp List.mem_cons_self
          have := hlx _ ht.2.2.1 ht.2.2.2.1
          have := leM_bd (A := A) (e := deM t)
          omega
      rw [hnil, h4']
      have e0 : lyE (szC c k) (alC c k) [] 0 = 0 := rfl
      rw [e0, show ((4 : Int) - 4).toNat = 0 from rfl, bdS_v.1]
      omega
    · have := (me_sum (m := bdS (4 - (leM A e + 1)).toNat) g hon hm h1 (by have := bdS_le (v := leM A e + 1) (by omega); omega) (fun x hx1 hx2 hx3 => by
        have := hx x hx1 hx2 hx3
        rw [hlx x hx1 hx2] at this
        exact this)).1
      have eb : bdS (4 - leM A e).toNat = 8 * (1536 + bdS (4 - (leM A e + 1)).toNat) + 143 := by
        rw [show (4 - leM A e).toNat = (4 - (leM A e + 1)).toNat + 1 by omega]
        rfl
      omega
  have hb8 := bdS_le hlv
  refine ⟨l, D, _, _, h1, h2, rfl, rfl, ?_, by rw [h5], ?_, ?_⟩
  · rw [h3, e5]
    exact rup_eq (n := 4) (by omega) (by omega)
  · have := rupM_bd (v := lyE (szC c k) (alC c k) l 0 + A (23 * e + 16)) (s := 16) (by omega) (by omega)
    omega
  · refine max_pow ?_
    rcases lyG_mem (P := alC c k) l (fun t ht => by
      obtain ⟨-, q, q1, q2⟩ := hbd t ((h1.2 t).mp ht)
      have := pow_le8 q q1
      omega) with q | ⟨t, ht, q⟩
    · exact Or.inl q
    · right
      rw [q]
      exact (hbd t ((h1.2 t).mp ht)).2
theorem TWb_of (g : gT A) (hon : ∀ e, on e = true → thM A e) (hm : MeC c A on) (hoff : ∀ e, 0 ≤ e → e < 20 → gt c e 3 = 1 → thM A e) (hx : ∀ x, on x = true → A (23 * x + 2) = a → A (23 * x + 1) = 1 → (0 ≤ gt c x (20 + k) ∧ gt c x (20 + k) ≤ 8000000) ∧ ∃ q : Nat, q ≤ 8 ∧ gt c x (22 + k) = 2 ^ q) : TWb c k a := fun e e0 e1 h1 h3 => by
  have hth := hoff e e0 e1 h3
  obtain ⟨q1, q2, q3, q4, q5⟩ := hm.2.1 e hth
  have ho := q2.mp h3
  have h5 := MG_many g.1 (dv := e) ⟨e0, e1⟩
  have h01 := (g.1 e e0 e1).1
  refine ⟨fun x x0 x1 => ?_, fun h0 hw => ?_⟩
  · rw [q3] at x1
    rw [(q5 x x0 x1).2]
    obtain ⟨q, r1, r2⟩ := g.2.2.2.2.2.2.2.1 e x hth x0 x1
    have := pow_le8 q r1
    omega
  · have h2 := ((hm.1 e).2.2 hth).1
    obtain ⟨w1, q, r1, r2⟩ := hx e ho (by rw [← h2]; exact h1) (by omega)
    have := pow_le8 q r1
    omega
/-- the measuring loop, what isn't measured yet is not known -/
theorem ms_runb (g : gT A) (hF : WkF A w n) (hon : ∀ e, on e = true → thM A e) (hk : 0 ≤ k ∧ k < 2) (hm0 : MeC c0 A on) (hT0 : TB c0) (h50 : ∀ e, 0 ≤ gt c0 e 5 + 1 ∧ gt c0 e 5 ≤ 1048576) (hoff : ∀ e, 0 ≤ e → e < 20 → gt c0 e 3 = 1 → thM A e) : ∀ (m : Nat) (y : (Int → Int) × zSS), (m : Int) ≤ n → MsK y.1 c0 k → (∀ e, on e = true → 0 ≤ gt y.1 e (20 + k) ∧ gt y.1 e (20 + k) ≤ 8000000) → (∀ j : Int, (m : Int) ≤ j → j < n → on (w j) = true → A (23 * w j + 1) = 1 → BrC y.1 A on k (w j)) → MsOb w n k m y ∧ MsK (msd w n k m y).1 c0 k ∧ (∀ e, on e = true → 0 ≤ gt (msd w n k m y).1 e (20 + k) ∧ gt (msd w n k m y).1 e (20 + k) ≤ 8000000) ∧ ∀ e, on e = true → A (23 * e + 1) = 1 → BrC (msd w n k m y).1 A on k e
  | 0, y, hmn, hK, hW, hB => by
    have hall : ∀ e, on e = true → A (23 * e + 1) = 1 → BrC y.1 A on k e := fun e he hb => by
      obtain ⟨j, j0, j1, j2⟩ := (hF.2.2 e).mpr (hon e he)
      have := hB j j0 j1 (by rw [j2]; exact he) (by rw [j2]; exact hb)
      rw [j2] at this
      exact this
    refine ⟨⟨TB_keep hk hK hT0, TWb_of g hon (MeC_keep hk hm0 hK) (fun e e0 e1 h3 => hoff e e0 e1 (by rw [← hK e 3 (by omega) (by omega)]; exact h3)) (fun x hx _ hbx => ⟨hW x hx, (hall x hx hbx).1.2⟩)⟩, hK, hW, hall⟩
  | m + 1, y, hmn, hK, hW, hB => by
    have hs := gT_S g
    have hm := MeC_keep hk hm0 hK
    have hth : thM A (w m) := (hF.2.2 _).mp ⟨m, by omega, by omega, rfl⟩
    have hr := th_rg hth
    have ew : wka w n (m : Nat) = w (m : Nat) := by
      unfold wka
      rw [if_pos ⟨by omega, by omega, by have := hF.1.2; omega⟩]
    have hcond : (gt y.1 (w (m : Nat)) 0 = 2 ∧ gt y.1 (w (m : Nat)) 3 = 1) ↔ (A (23 * w (m : Nat) + 1) = 1 ∧ on (w (m : Nat)) = true) := by
      obtain ⟨q1, q2, -⟩ := hm.2.1 _ hth
      rw [q1, q2]
      constructor
      · rintro ⟨r1, r2⟩
        exact ⟨by omega, r2⟩
      · rintro ⟨r1, r2⟩
        exact ⟨by omega, r2⟩
    -- the bridges on this bus come later
    have hch : A (23 * w (m : Nat) + 1) = 1 → ∀ x, on x = true → A (23 * x + 2) = w (m : Nat) → A (23 * x + 1) = 1 → BrC y.1 A on k x := fun hc x hx hp hb => by
      obtain ⟨j, j0, j1, j2⟩ := (hF.2.2 x).mpr (hon x hx)
      have hke := ke_par hs (hon x hx) (by rw [hp]; exact ⟨hth, hc⟩)
      rw [hp] at hke
      have hj : (m : Int) < j := by
        rcases Int.lt_trichotomy (m : Int) j with q | q | q
        · exact q
        · rw [← j2, ← q] at hke
          omega
        · have := hF.2.1 j m j0 q (by omega)
          rw [j2] at this
          omega
      have := hB j (by omega) j1 (by rw [j2]; exact hx) (by rw [j2]; exact hb)
      rw [j2] at this
      exact this
    have hok : TB y.1 ∧ (gt y.1 (wka w n (m : Nat)) 0 = 2 ∧ gt y.1 (wka w n (m : Nat)) 3 = 1 → TWb y.1 k (wka w n (m : Nat))) ∧ ∀ e, 0 ≤ gt y.1 e 5 + 1 ∧ gt y.1 e 5 ≤ 1048576 := ⟨TB_keep hk hK hT0, fun q => by
      rw [ew] at q ⊢
      exact TWb_of g hon hm (fun e e0 e1 h3 => hoff e e0 e1 (by rw [← hK e 3 (by omega) (by omega)]; exact h3)) (fun x hx hp hbx => ⟨hW x hx, (hch (hcond.mp q).1 x hx hp hbx).1.2⟩), fun e => by
      rw [hK e 5 (by omega) (by omega)]
      exact h50 e⟩
    have em : msd w n k (m + 1) y = msd w n k m (msf w n k (m : Nat) y) := rfl
    have eo : MsOb w n k (m + 1) y = ((TB y.1 ∧ (gt y.1 (wka w n (m : Nat)) 0 = 2 ∧ gt y.1 (wka w n (m : Nat)) 3 = 1 → TWb y.1 k (wka w n (m : Nat))) ∧ ∀ e, 0 ≤ gt y.1 e 5 + 1 ∧ gt y.1 e 5 ≤ 1048576) ∧ MsOb w n k m (msf w n k (m : Nat) y)) := rfl
    rw [em, eo]
    suffices hsuf : MsK (msf w n k (m : Nat) y).1 c0 k ∧ (∀ e, on e = true → 0 ≤ gt (msf w n k (m : Nat) y).1 e (20 + k) ∧ gt (msf w n k (m : Nat) y).1 e (20 + k) ≤ 8000000) ∧ ∀ j : Int, (m : Int) ≤ j → j < n → on (w j) = true → A (23 * w j + 1) = 1 → BrC (msf w n k (m : Nat) y).1 A on k (w j) by
      obtain ⟨i1, i2, i3, i4⟩ := ms_runb g hF hon hk hm0 hT0 h50 hoff m (msf w n k (m : Nat) y) (by omega) hsuf.1 hsuf.2.1 hsuf.2.2
      exact ⟨⟨hok, i1⟩, i2, i3, i4⟩
    by_cases hc : A (23 * w (m : Nat) + 1) = 1 ∧ on (w (m : Nat)) = true
    · -- a bridge
      obtain ⟨l, D, v1, v2, b1, b2, b3, b4, b5, b6, b7, b8⟩ := ms_oneb (z := y.2) g hF hon hk hm (fun e he => (hW e he).1) hc.2 hc.1 (fun x hx hp hb => (hch hc.1 x hx hp hb).1)
      have ef : (msf w n k (m : Nat) y).1 = stc (stc y.1 (w (m : Nat)) (20 + k) v1) (w (m : Nat)) (22 + k) v2 := by
        unfold msf
        rw [ew, if_pos (hcond.mpr hc), b5, b6]
        dsimp only
        rw [ups_stc hr (by omega), ups_stc hr (by omega)]
      generalize (msf w n k (m : Nat) y).1 = C at *
      have hgt : ∀ e f : Int, gt C e f = if e = w (m : Nat) ∧ f = 22 + k then v2 else if e = w (m : Nat) ∧ f = 20 + k then v1 else gt y.1 e f := fun e f => by
        rw [ef, gt_stc, gt_stc]
        by_cases q1 : e = w (m : Nat) ∧ f = 22 + k
        · rw [if_pos q1, if_pos ⟨q1.1, q1.2, hr.1, hr.2, by omega, by omega⟩]
        · rw [if_neg q1, if_neg (fun q => q1 ⟨q.1, q.2.1⟩)]
          by_cases q2 : e = w (m : Nat) ∧ f = 20 + k
          · rw [if_pos q2, if_pos ⟨q2.1, q2.2, hr.1, hr.2, by omega, by omega⟩]
          · rw [if_neg q2, if_neg (fun q => q2 ⟨q.1, q.2.1⟩)]
      have hv20 : gt C (w (m : Nat)) (20 + k) = v1 := by rw [hgt, if_neg (by omega), if_pos ⟨rfl, rfl⟩]
      have hv22 : gt C (w (m : Nat)) (22 + k) = v2 := by rw [hgt, if_pos ⟨rfl, rfl⟩]
      have hne : ∀ e f : Int, e ≠ w (m : Nat) → gt C e f = gt y.1 e f := fun e f h => by rw [hgt, if_neg (fun q => h q.1), if_neg (fun q => h q.1)]
      have hlv := bdS_le (leM_bd (A := A) (e := w (m : Nat)))
      -- what lies on the bus of a bridge that comes later is as it was
      have hag : ∀ j : Int, (m : Int) ≤ j → j < n → ∀ t, itP A on (szC y.1 k) k (w j) t ∨ itP A on (szC C k) k (w j) t → szC y.1 k t = szC C k t ∧ alC y.1 k t = alC C k t := fun j j0 j1 t ht => by
        have hcom : on (deM t) = true ∧ A (23 * deM t + 2) = w j := by
          rcases ht with h | h
          · exact ⟨h.2.2.1, h.2.2.2.1⟩
          · exact ⟨h.2.2.1, h.2.2.2.1⟩
        have hthx := hon _ hcom.1
        have hthj : thM A (w j) := (hF.2.2 _).mp ⟨j, by omega, j1, rfl⟩
        have hd : deM t ≠ w (m : Nat) := fun q => by
          have hke := ke_par hs hthx ((hs.2.1 _ hthx).resolve_left (by rw [hcom.2]; have := hthj.1; omega))
          rw [hcom.2, q] at hke
          rcases Int.lt_trichotomy (m : Int) j with r | r | r
          · have := hF.2.1 m j (by omega) r j1
            omega
          · rw [← r] at hke
            omega
          · omega
        unfold szC alC
        rw [hne _ _ hd, hne _ _ hd, hne _ _ hd]
        exact ⟨rfl, rfl⟩
      refine ⟨fun e f f1 f2 => ?_, fun e he => ?_, fun j j0 j1 hoj hbj => ?_⟩
      · rw [hgt, if_neg (fun q => f2 q.2), if_neg (fun q => f1 q.2)]
        exact hK e f f1 f2
      · by_cases q : e = w (m : Nat)
        · rw [q, hv20]
          omega
        · rw [hne _ _ q]
          exact hW e he
      · by_cases q : j = m
        · rw [q]
          refine ⟨?_, l, D, BusL_congr b1 (hag m (Int.le_refl _) (by omega)), ?_, ?_, ?_⟩
          · rw [hv20, hv22]
            exact ⟨b7, b8⟩
          · exact lyD_congr l 0 (fun t ht => by
              have := hag m (Int.le_refl _) (by omega) t (Or.inl ((b1.2 t).mp ht))
              exact ⟨this.1, this.2, rfl⟩) b2
          · rw [hv20, b3, lyE_congr l 0 (fun t ht => hag m (Int.le_refl _) (by omega) t (Or.inl ((b1.2 t).mp ht)))]
          · rw [hv22, b4, lyG_congr l (fun t ht => (hag m (Int.le_refl _) (by omega) t (Or.inl ((b1.2 t).mp ht))).2)]
        · have hwj : w j ≠ w (m : Nat) := fun r => by
            have := hF.2.1 m j (by omega) (by omega) j1
            rw [r] at this
            omega
          obtain ⟨c1, l', D', c2, c3, c4, c5⟩ := hB j (by omega) j1 hoj hbj
          refine ⟨by rw [hne _ _ hwj, hne _ _ hwj]; exact c1, l', D', BusL_congr c2 (hag j j0 j1), ?_, ?_, ?_⟩
          · exact lyD_congr l' 0 (fun t ht => by
              have := hag j j0 j1 t (Or.inl ((c2.2 t).mp ht))
              exact ⟨this.1, this.2, rfl⟩) c3
          · rw [hne _ _ hwj, c4, lyE_congr l' 0 (fun t ht => hag j j0 j1 t (Or.inl ((c2.2 t).mp ht)))]
          · rw [hne _ _ hwj, c5, lyG_congr l' (fun t ht => (hag j j0 j1 t (Or.inl ((c2.2 t).mp ht))).2)]
    · have ef : msf w n k (m : Nat) y = y := by
        unfold msf
        rw [ew, if_neg (fun q => hc (hcond.mp q))]
      rw [ef]
      refine ⟨hK, hW, fun j j0 j1 hoj hbj => ?_⟩
      by_cases q : j = m
      · rw [q] at hoj hbj
        exact absurd ⟨hbj, hoj⟩ hc
      · exact hB j (by omega) j1 hoj hbj
theorem MsW_of (g : gT A) (hon : ∀ e, on e = true → thM A e) (hm : MeC c A on) (hW : ∀ e, on e = true → 0 ≤ gt c e (20 + k) ∧ gt c e (20 + k) ≤ 8000000) (hB : ∀ e, on e = true → A (23 * e + 1) = 1 → BrC c A on k e) : MsW c on k := fun e he => ⟨hW e he, fun h0 _ => by
  have hth := hon e he
  have hr := th_rg hth
  have h1 := (hm.2.1 e hth).1
  have h01 := (g.1 e hr.1 hr.2).1
  exact (hB e he (by omega)).1.2⟩
theorem hm_gt : ∀ (m : Nat) (i : Int) (c : Int → Int), (∀ j : Int, i ≤ j → j < i + m → wka w n j = w j ∧ 0 ≤ w j ∧ w j < 20) → ∀ e f : Int, (f = 3 → (∃ j : Int, i ≤ j ∧ j < i + m ∧ w j = e) → gt (lp (hmf w n) m i c) e f = 1) ∧ (¬ (f = 3 ∧ ∃ j : Int, i ≤ j ∧ j < i + m ∧ w j = e) → gt (lp (hmf w n) m i c) e f = gt c e f)
  | 0, i, c, h, e, f => ⟨fun _ q => by
      obtain ⟨j, j0, j1, -⟩ := q
      omega, fun _ => rfl⟩
  | m + 1, i, c, h, e, f => by
    obtain ⟨h1, h2, h3⟩ := h i (Int.le_refl _) (by omega)
    obtain ⟨i1, i2⟩ := hm_gt m (i + 1) (hmf w n i c) (fun j j0 j1 => h j (by omega) (by omega)) e f
    have ec : gt (hmf w n i c) e f = if e = w i ∧ f = 3 then 1 else gt c e f := by
      unfold hmf
      rw [h1, gt_stc]
      by_cases q : e = w i ∧ f = 3
      · rw [if_pos q, if_pos ⟨q.1, q.2, h2, h3, by omega, by omega⟩]
      · rw [if_neg q, if_neg (fun r => q ⟨r.1, r.2.1⟩)]
    simp only [lp]
    refine ⟨fun q ⟨j, j0, j1, j2⟩ => ?_, fun q => ?_⟩
    · by_cases r : ∃ j : Int, i + 1 ≤ j ∧ j < i + 1 + m ∧ w j = e
      · exact i1 q r
      · have : j = i := Decidable.byContradiction fun s => r ⟨j, by omega, by omega, j2⟩
        rw [i2 (fun s => r s.2), ec, if_pos ⟨by rw [← j2, this], q⟩]
    · rw [i2 (fun s => q ⟨s.1, by
        obtain ⟨j, j0, j1, j2⟩ := s.2
        exact ⟨j, by omega, by omega, j2⟩⟩), ec, if_neg (fun s => q ⟨s.2, i, by omega, by omega, s.1.symm⟩)]
/-- all that is there is ON -/
theorem hm_MeC (hc : SimC c A) (hC : Cls c) (g : gT A) (hF : WkF A w n) : MeC (lp (hmf w n) n.toNat 0 c) A (thB A) ∧ Cls c ∧ (∀ e f : Int, f ≠ 3 → gt (lp (hmf w n) n.toNat 0 c) e f = gt c e f) ∧ ∀ e, 0 ≤ e → e < 20 → gt (lp (hmf w n) n.toNat 0 c) e 3 = 1 → thM A e := by
  have hg := hm_gt (w := w) (n := n) n.toNat 0 c (fun j j0 j1 => by
    have hj := th_rg ((hF.2.2 (w j)).mp ⟨j, j0, by have := hF.1.1; omega, rfl⟩)
    refine ⟨?_, hj⟩
    unfold wka
    rw [if_pos ⟨j0, by have := hF.1.1; omega, by have := hF.1.2; have := hF.1.1; omega⟩])
  have hex : ∀ e, (∃ j : Int, 0 ≤ j ∧ j < 0 + (n.toNat : Nat) ∧ w j = e) ↔ thM A e := fun e => by
    rw [← hF.2.2]
    have := hF.1.1
    constructor
    · rintro ⟨j, j0, j1, j2⟩
      exact ⟨j, j0, by omega, j2⟩
    · rintro ⟨j, j0, j1, j2⟩
      exact ⟨j, j0, by omega, j2⟩
  have hf : ∀ e f : Int, f ≠ 3 → gt (lp (hmf w n) n.toNat 0 c) e f = gt c e f := fun e f q => (hg e f).2 (fun r => q r.1)
  have h3 : ∀ e, thM A e → gt (lp (hmf w n) n.toNat 0 c) e 3 = 1 := fun e q => (hg e 3).1 rfl ((hex e).mpr q)
  have h3n : ∀ e, ¬ thM A e → gt (lp (hmf w n) n.toNat 0 c) e 3 = gt c e 3 := fun e q => (hg e 3).2 (fun r => q ((hex e).mp r.2))
  generalize lp (hmf w n) n.toNat 0 c = C at *
  refine ⟨⟨SimW_gt (SimW_of hc) (fun e f f0 f1 => hf e f (by omega)), fun e he => ?_, fun e e0 e1 => ?_⟩, hC, hf, fun e e0 e1 q => ?_⟩
  · obtain ⟨d1, d2, d3, d4, d5, d6, d7, d8, d9⟩ := sc_d hc he
    rw [hf e 0 (by omega), hf e 6 (by omega), hf e 5 (by omega)]
    refine ⟨d1, ⟨fun _ => decide_eq_true he, fun _ => h3 e he⟩, d5, d7, fun x x0 x1 => ?_⟩
    have h5 := MG_many g.1 (th_rg he)
    rw [hf e (9 + x) (by omega), hf e (12 + x) (by omega)]
    exact ⟨(d8 x x0 x1).1, (d8 x x0 x1).2.1⟩
  · rw [hf e 6 (by omega)]
    exact Cls_HsB hC e e0 e1
  · refine Decidable.byContradiction fun r => ?_
    rw [h3n e r] at q
    exact (hc e e0 e1).2.2.2 (fun s => r ⟨e0, by omega, s⟩) |>.2 q
/-- what the class measures, all ON -/
theorem hm_all (hT : GdT gGd (trl im) 120 A) (hk : 0 ≤ k ∧ k < 2) : MsOb (hmM im 123) (hmM im 120 4) k (hmM im 120 4).toNat (hmM im 121, gsh (hmM im) 132) ∧ TB (hmY im k).1 ∧ TW (hmY im k).1 k ∧ ∃ S P D N G, NdS A (thB A) k S P D N G ∧ ∀ a : Int, (layS (ordG (hmZ im k) 120 a k)).1 = N a ∧ galS (gatS (hmZ im k 121) (hmZ im k 123) (hmZ im k 120 4) a k (gsh (hmZ im k) 132)) = G a := by
  obtain ⟨h1, g, hC⟩ := id hT
  have t1 : SimC (trl im 121) A := h1.1
  have hC : Cls (trl im 121) := hC
  have hF : WkF A (trl im 123) (trl im 120 4) := TrI_F (gT_S g.1) h1
  have hon : ∀ e, thB A e = true → thM A e := fun e q => of_decide_eq_true q
  obtain ⟨m1, -, m3, m4⟩ := hm_MeC t1 hC g.1 hF
  have e123 : hmM im 123 = trl im 123 := setc_ne _ _ (by omega)
  have e120 : hmM im 120 = trl im 120 := setc_ne _ _ (by omega)
  have e121 : hmM im 121 = lp (hmf (trl im 123) (trl im 120 4)) (trl im 120 4).toNat 0 (trl im 121) := setc_at _ _ _
  have eY : hmY im k = msd (hmM im 123) (hmM im 120 4) k (hmM im 120 4).toNat (hmM im 121, gsh (hmM im) 132) := rfl
  have hcg : ∀ e f : Int, f ≠ 3 → gt (hmM im 121) e f = gt (trl im 121) e f := fun e f q => by rw [e121]; exact m3 e f q
  have hTB : TB (hmM im 121) := fun e => by
    have := Cls_TB hC e
    refine ⟨by rw [hcg e 6 (by omega)]; exact this.1, fun x x0 x1 => by rw [hcg e (12 + x) (by omega)]; exact this.2 x x0 x1⟩
  rw [← e121] at m1 m4
  have hrun := ms_runb (n := trl im 120 4) (k := k) g.1 hF hon hk m1 hTB (fun e => by
    rw [hcg e 5 (by omega)]
    by_cases q : 0 ≤ e ∧ e < 20
    · have := (hC e q.1 q.2).2.2.1
      omega
    · rw [gt_out q]
      omega) m4 (trl im 120 4).toNat (hmM im 121, gsh (hmM im) 132) (by have := hF.1.1; omega) (fun _ _ _ _ => rfl) (fun e he => by
    have hr := th_rg (hon e he)
    dsimp only
    rw [hcg e (20 + k) (by omega)]
    have := ((hC e hr.1 hr.2).2.2.2.2.2.2 k hk.1 hk.2).2.1
    omega) (fun j j0 j1 => by have := hF.1.1; omega)
  rw [← e123, ← e120, ← eY] at hrun
  obtain ⟨r1, r2, r3, r4⟩ := hrun
  have hM2 := MeC_keep hk m1 r2
  have hMW := MsW_of g.1 hon hM2 r3 r4
  have hTB2 := TB_keep hk r2 hTB
  have hTW := TW_of g.1 hon hM2 hMW (fun e e0 e1 h3 => m4 e e0 e1 (by rw [← r2 e 3 (by omega) (by omega)]; exact h3))
  obtain ⟨D, n1, n2⟩ := nds_cls (z := gsh im 132) g.1 hF hon hM2 hMW r4
  refine ⟨r1, hTB2, hTW, _, _, D, _, _, n1, fun a => ?_⟩
  have eo : (layS (ordG (hmZ im k) 120 a k)).1 = (ndS (hmZ im k 121) (hmZ im k 123) (hmZ im k 120 4) a k (gsh (hmZ im k) 132)).1 := rfl
  rw [eo, hmZ_c, hmZ_w, hmZ_n]
  obtain ⟨q1, q2, -⟩ := n2 a (gsh (hmZ im k) 132)
  exact ⟨q1, q2⟩
/-- scratch of the reference's needs -/
theorem nd_inv (hI : Inv gGd im) (hY : ∀ p : Nat, (p < 120 ∨ (137 < p ∧ p < 174) ∨ 179 < p) → Y p = im p) (h176 : Y 176 = im 176) {r : zLy} (hD : DK (im 176) → DK r.2.2.1) : Inv gGd (lym Y r) := by
  refine Inv_of gGd_ok hI (fun p hp => by rw [lym_o (by omega), hY p (by omega)]) ⟨by rw [lym_f (by omega), hY 171 (by omega)], by rw [lym_f (by omega), hY 171 (by omega)]⟩ (fun j _ _ => by rw [lym_A, hY 172 (by omega)]) (fun p hp => by rw [lym_o (by omega), hY p (by omega)]) ⟨?_, ?_, ?_⟩
  · rw [lym_o (by omega), hY 163 (by omega)]
    exact hI.2.2.1
  · rw [lym_o (by omega), hY 184 (by omega)]
    exact hI.2.2.2.1
  · rw [lym_D]
    exact hD hI.2.2.2.2
theorem hm_both (hT : GdT gGd (trl im) 120 A) (hA : Y 172 = A) (hk : 0 ≤ k ∧ k < 2) (ha : ibM A a) : (layS (ordG (hmZ im k) 120 a k)).1 = (ndR Y).1 (21 * k + bfM a) ∧ galS (gatS (hmZ im k 121) (hmZ im k 123) (hmZ im k 120 4) a k (gsh (hmZ im k) 132)) = (ndR Y).2.1 (21 * k + bfM a) := by
  obtain ⟨-, -, -, S, P, D, N, G, n1, n2⟩ := hm_all hT hk
  have g := hT.2.1
  have hon : ∀ e, thB A e = true → thM A e := fun e q => of_decide_eq_true q
  obtain ⟨-, -, r3, -⟩ := rf_N (r := lyg Y) g.1 hon
  have er : ndR Y = lnN A (thB A) (lyg Y) := by
    unfold ndR
    rw [hA]
  obtain ⟨u1, u2, u3, -⟩ := NdS_uniq (gT_S g.1) hon n1 (r3 k hk.1 hk.2).1
  rw [er, (n2 a).1, (n2 a).2]
  rcases ha with q | q
  · rw [q]
    exact ⟨u2, u3⟩
  · obtain ⟨-, -, v1, v2, -⟩ := u1 a (decide_eq_true q.1) q.2
    exact ⟨v1, v2⟩
theorem sp_need : Sp2 99 (Inv gGd) 112 242 := by
  intro im hI a _ k _
  have hh := Inv_hh hI
  have hT := trl_GdT hI
  have g := hT.2.1
  have t1 : SimC (trl im 121) (im 172) := hT.1.1
  have hF : WkF (im 172) (trl im 123) (trl im 120 4) := TrI_F (gT_S g.1) hT.1
  have hon : ∀ e, thB (im 172) e = true → thM (im 172) e := fun e q => of_decide_eq_true q
  refine (c_need' (d := 92) hh hF.1 (fun _ hk => (hm_all hT hk).1) (fun _ hk => ⟨(hm_all hT hk).2.1, (hm_all hT hk).2.2.1⟩)).mpr ?_
  have hiff : (a = -1 ∨ gt (trl im 121) a 0 = 2) ↔ ibM (im 172) a := or_congr Iff.rfl (sc_br t1)
  have hnd : ∀ Y : zM, Y 172 = im 172 → NdM Y := fun Y hY => by
    obtain ⟨a1, a2, -, -⟩ := rf_N (r := lyg Y) g.1 hon
    unfold NdM
    rw [hY]
    exact ⟨a1, a2⟩
  by_cases c1 : (a = -1 ∨ gt (trl im 121) a 0 = 2) ∧ 0 ≤ k ∧ k < 2
  · rw [if_pos c1]
    have hY : ∀ p : Nat, (p < 120 ∨ 137 < p) → sth (hmZ im k) 132 (setB (ordG (hmZ im k) 120 a k) (layS (ordG (hmZ im k) 120 a k)).2) p = im p := fun p hp => by
      rw [sth_ne _ _ (by omega)]
      unfold hmZ
      rw [mt2_ne zT_120 _ _ (by omega) (by omega)]
      unfold hmM
      rw [setc_ne _ _ (by omega), trl_ne (by omega)]
    generalize sth (hmZ im k) 132 (setB (ordG (hmZ im k) 120 a k) (layS (ordG (hmZ im k) 120 a k)).2) = Y at hY
    have h172 := hY 172 (by omega)
    refine ⟨_, rfl, (c_needM (d := 94) (by rw [h172]; exact g.1.1) (by rw [h172]; exact g.1.2.1) (hnd Y h172)).mpr ?_⟩
    rw [h172, if_pos ⟨hiff.mp c1.1, by omega⟩]
    refine ⟨?_, nd_inv hI (fun p hp => hY p (by omega)) (hY 176 (by omega)) (fun hD => ?_)⟩
    · rw [(hm_both (Y := Y) hT h172 c1.2 (hiff.mp c1.1)).1]
    · obtain ⟨-, -, -, r4⟩ := rf_N (r := lyg Y) g.1 hon
      unfold ndR
      rw [h172]
      refine r4 ?_
      show DK (Y 176)
      rw [hY 176 (by omega)]
      exact hD
  · rw [if_neg c1]
    refine ⟨_, rfl, (c_needM (d := 94) (by rw [trl172]; exact g.1.1) (by rw [trl172]; exact g.1.2.1) (hnd _ trl172)).mpr ?_⟩
    rw [trl172, if_neg (fun q => c1 ⟨hiff.mpr q.1, by omega⟩)]
    exact ⟨rfl, trl_stay hI⟩
theorem sp_align : Sp2 99 (Inv gGd) 113 243 := by
  intro im hI a _ k _
  have hh := Inv_hh hI
  have hT := trl_GdT hI
  have g := hT.2.1
  have t1 : SimC (trl im 121) (im 172) := hT.1.1
  have hF : WkF (im 172) (trl im 123) (trl im 120 4) := TrI_F (gT_S g.1) hT.1
  have hon : ∀ e, thB (im 172) e = true → thM (im 172) e := fun e q => of_decide_eq_true q
  refine (c_align' (d := 92) hh hF.1 (fun _ hk => (hm_all hT hk).1) (fun _ hk => (hm_all hT hk).2.1)).mpr ?_
  have hiff : (a = -1 ∨ gt (trl im 121) a 0 = 2) ↔ ibM (im 172) a := or_congr Iff.rfl (sc_br t1)
  have hnd : ∀ Y : zM, Y 172 = im 172 → NdM Y := fun Y hY => by
    obtain ⟨a1, a2, -, -⟩ := rf_N (r := lyg Y) g.1 hon
    unfold NdM
    rw [hY]
    exact ⟨a1, a2⟩
  by_cases c1 : (a = -1 ∨ gt (trl im 121) a 0 = 2) ∧ 0 ≤ k ∧ k < 2
  · rw [if_pos c1]
    have hY : ∀ p : Nat, (p < 120 ∨ 137 < p) → sth (hmZ im k) 132 (gatS (hmZ im k 121) (hmZ im k 123) (hmZ im k 120 4) a k (gsh (hmZ im k) 132)) p = im p := fun p hp => by
      rw [sth_ne _ _ (by omega)]
      unfold hmZ
      rw [mt2_ne zT_120 _ _ (by omega) (by omega)]
      unfold hmM
      rw [setc_ne _ _ (by omega), trl_ne (by omega)]
    generalize hYd : sth (hmZ im k) 132 (gatS (hmZ im k 121) (hmZ im k 123) (hmZ im k 120 4) a k (gsh (hmZ im k) 132)) = Y at hY
    have h172 := hY 172 (by omega)
    refine ⟨_, rfl, (c_alignM (d := 94) (by rw [h172]; exact g.1.1) (by rw [h172]; exact g.1.2.1) (hnd Y h172)).mpr ?_⟩
    rw [h172, if_pos ⟨hiff.mp c1.1, by omega⟩]
    refine ⟨?_, nd_inv hI (fun p hp => hY p (by omega)) (hY 176 (by omega)) (fun hD => ?_)⟩
    · rw [(hm_both (Y := Y) hT h172 c1.2 (hiff.mp c1.1)).2]
    · obtain ⟨-, -, -, r4⟩ := rf_N (r := lyg Y) g.1 hon
      unfold ndR
      rw [h172]
      refine r4 ?_
      show DK (Y 176)
      rw [hY 176 (by omega)]
      exact hD
  · rw [if_neg c1]
    refine ⟨_, rfl, (c_alignM (d := 94) (by rw [trl172]; exact g.1.1) (by rw [trl172]; exact g.1.2.1) (hnd _ trl172)).mpr ?_⟩
    rw [trl172, if_neg (fun q => c1 ⟨hiff.mpr q.1, by omega⟩)]
    exact ⟨rfl, trl_stay hI⟩
end EG
