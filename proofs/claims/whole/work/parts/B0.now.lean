/-! THE STEPS units, gap, law; what is known of a good state's things -/
section BK
variable {im X Y : zM} {c c' s sp A B w w' T : Int → Int} {e f a b x y d k m n u bu : Int} {z : zSS} {p q r : Int → Bool}
theorem map_idx {β : Type} {g : Int → β} : ∀ (m : Nat) (i : Int) (F : Int → β) (l : List Int), (rgL i m).map F = l.map g → ∃ τ : Int → Int, (∀ j : Int, i ≤ j → j < i + m → F j = g (τ j)) ∧ l = (rgL i m).map τ
  | 0, i, F, [], _ => ⟨id, fun j j0 j1 => by omega, rfl⟩
  | 0, i, F, t :: l, h => by simp [rgL] at h
  | m + 1, i, F, [], h => by simp [rgL] at h
  | m + 1, i, F, t :: l, h => by
    simp only [rgL, List.map_cons, List.cons.injEq] at h
    obtain ⟨τ, h1, h2⟩ := map_idx m (i + 1) F l h.2
    refine ⟨fun j => if j = i then t else τ j, fun j j0 j1 => ?_, ?_⟩
    · show F j = g (if j = i then t else τ j)
      by_cases q : j = i
      · rw [if_pos q, q]
        exact h.1
      · rw [if_neg q]
        exact h1 j (by omega) (by omega)
    · simp only [rgL, List.map_cons, if_true]
      refine congrArg (t :: ·) ?_
      rw [h2]
      refine List.map_congr_left (fun j hj => ?_)
      have := (mem_rgL _ _ _).mp hj
      rw [if_neg (by omega)]
theorem pw_idx {R : Int → Int → Prop} {τ : Int → Int} : ∀ (m : Nat) (i : Int), List.Pairwise R ((rgL i m).map τ) → ∀ a b : Int, i ≤ a → a < b → b < i + m → R (τ a) (τ b)
  | 0, i, _, a, b, h0, h1, h2 => by omega
  | m + 1, i, h, a, b, h0, h1, h2 => by
    simp only [rgL, List.map_cons] at h
    obtain ⟨h3, h4⟩ := List.pairwise_cons.mp h
    by_cases q : a = i
    · rw [q]
      exact h3 _ (List.mem_map.mpr ⟨b, (mem_rgL _ _ _).mpr ⟨by omega, by omega⟩, rfl⟩)
    · exact pw_idx m (i + 1) h4 a b (by omega) h1 (by omega)
/-- a thing of a bus now -/
def ThN (A : Int → Int) (a k t : Int) : Prop := 0 ≤ t ∧ t < 80 ∧ itM A t k ∧ A (23 * deM t + 2) = a
/-- a gathered shelf, place by place -/
theorem sh_idx (hc : SimC c A) (g : gGd A) (hF : WkF A w n) (h6 : HsB c) (hk : 0 ≤ k ∧ k < 2) {y' : zSS} (hz : z = gatS c w n a k y') : (0 ≤ z.2.2.2.2.2 ∧ z.2.2.2.2.2 ≤ 24) ∧ ∃ τ : Int → Int, (∀ i : Int, 0 ≤ i → i < z.2.2.2.2.2 → (z.1 i = deM (τ i) ∧ z.2.1 i = apV (τ i) ∧ z.2.2.2.1 i = wdT A (τ i) k ∧ z.2.2.2.2.1 i = bgT A (τ i) k) ∧ ThN A a k (τ i)) ∧ (∀ t, ThN A a k t → ∃ i : Int, 0 ≤ i ∧ i < z.2.2.2.2.2 ∧ τ i = t) ∧ (∀ i j : Int, 0 ≤ i → i < j → j < z.2.2.2.2.2 → raM A (τ i) < raM A (τ j)) := by
  obtain ⟨h1, h2, h3⟩ := sh_gather (z := y') (a := a) (k := k) (SimW_of hc) (gT_S g.1) hF h6
  rw [← hz] at h1 h2 h3
  refine ⟨⟨by omega, h3⟩, ?_⟩
  unfold shL at h1
  obtain ⟨τ, t1, t2⟩ := map_idx _ _ _ _ h1
  have hpw := pw_thL (a := a) (k := k) (SimW_of hc) (gT_S g.1) hF h6
  rw [t2] at hpw
  have hmem : ∀ t, t ∈ thL c w n a k ↔ ∃ i : Int, 0 ≤ i ∧ i < z.2.2.2.2.2 ∧ τ i = t := fun t => by
    rw [t2, List.mem_map]
    constructor
    · rintro ⟨i, hi, rfl⟩
      have := (mem_rgL _ _ _).mp hi
      exact ⟨i, this.1, by omega, rfl⟩
    · rintro ⟨i, i0, i1, rfl⟩
      exact ⟨i, (mem_rgL _ _ _).mpr ⟨i0, by omega⟩, rfl⟩
  refine ⟨τ, fun i i0 i1 => ?_, fun t ht => ?_, fun i j i0 ij j1 => pw_idx _ _ hpw i j i0 ij (by omega)⟩
  · have hx := t1 i i0 (by omega)
    have hm := (hmem (τ i)).mpr ⟨i, i0, i1, rfl⟩
    obtain ⟨x0, x1, hi, hb⟩ := (thL_now hc g hF h6 hk).mp hm
    obtain ⟨r1, r2⟩ := rec_now hc g hk x0 x1 hi
    simp only [recC, Prod.mk.injEq] at hx
    obtain ⟨e1, e2, e3, e4, e5⟩ := hx
    exact ⟨⟨e1, e2, by rw [e4, r1], by rw [e5, r2]⟩, x0, x1, hi, hb⟩
  · exact (hmem t).mp ((thL_now hc g hF h6 hk).mpr ht)
/-- windows of buses -/
theorem bus_rg (ha : a = -1 ∨ onBr A a) : a = -1 ∨ (0 ≤ a ∧ a < 20) := ha.imp id (fun q => th_rg q.1.1)
theorem wi_thing (g : gGd A) (ha : onBr A a) (hk : 0 ≤ k ∧ k < 2) (hw : wiM A a k ≠ 0) : 0 ≤ beM A a k ∧ beM A a k + wiM A a k ≤ 1024 := by
  have hr := th_rg ha.1.1
  have hM := MG_win g.1.1 hr hk
  unfold wiM beM at *
  rw [if_neg (by omega)] at hw ⊢
  rw [if_neg (by omega)]
  obtain ⟨d1, d2, d3⟩ := de_br hr.1
  have hi : itM A (60 + a) k := ⟨by rw [d1]; exact ha.1, by rw [if_neg d3, d1]; omega⟩
  have := (g.2.2.2.2.2.1 (60 + a) k (by omega) (by omega) hk.1 hk.2 hi).2.2.2
  unfold bgT wdT at this
  rw [if_neg d3, if_neg d3, show 60 + a - 60 = a by omega] at this
  exact this
theorem bw_now (g : gGd A) (ha : a = -1 ∨ onBr A a) (hk : 0 ≤ k ∧ k < 2) : BwM A (bfM a) k := by
  unfold bfM
  rcases ha with q | q
  · have := g.1.2.2.2.1 k hk.1 hk.2
    rw [if_pos q]
    unfold BwM wiM beM
    rw [if_pos rfl, if_pos rfl]
    omega
  · have hr := th_rg q.1.1
    have hM := MG_win g.1.1 hr hk
    rw [if_neg (by omega)]
    refine ⟨?_, ?_, ?_⟩
    · unfold wiM
      rw [if_neg (by omega)]
      exact hM.2.1
    · unfold wiM
      rw [if_neg (by omega)]
      exact hM.2.2
    · by_cases hw : wiM A a k = 0
      · exact Or.inl hw
      · exact Or.inr (wi_thing g q hk hw)
theorem tk_now (g : gGd A) (hk : 0 ≤ k ∧ k < 2) : TkP A bu k := by
  intro e he hb
  have hr := th_rg he.1
  have h5 := MG_many g.1.1 hr
  refine ⟨fun a a0 a1 a2 => ?_, fun hw => ?_⟩
  · obtain ⟨d1, d2, d3, d4⟩ := de_ap hr.1 hr.2 a0 (show a < 3 by omega)
    have hi : itM A (3 * e + a) k := ⟨by rw [d1]; exact he, by rw [if_pos d4, d1, d3]; exact ⟨a1, a2⟩⟩
    have h := (g.2.2.2.2.2.1 (3 * e + a) k (by omega) (by omega) hk.1 hk.2 hi).2.2.2
    have hp := prT_ap (A := A) (k := k) hr.1 hr.2 a0 (show a < 3 by omega)
    unfold prT at hp
    rw [Prod.mk.injEq] at hp
    rw [hp.1, hp.2] at h
    exact h
  · obtain ⟨d1, d2, d3⟩ := de_br hr.1
    have hi : itM A (60 + e) k := ⟨by rw [d1]; exact he, by rw [if_neg d3, d1]; exact hw⟩
    have h := (g.2.2.2.2.2.1 (60 + e) k (by omega) (by omega) hk.1 hk.2 hi).2.2.2
    have hp := prT_br (A := A) (k := k) hr.1
    unfold prT at hp
    rw [Prod.mk.injEq] at hp
    rw [hp.1, hp.2] at h
    exact h
theorem ft_now (g : gGd A) (ha : a = -1 ∨ onBr A a) : FtP A (bfM a) := by
  refine ⟨?_, fun k k0 k1 => ⟨bw_now g ha ⟨k0, k1⟩, tk_now g ⟨k0, k1⟩⟩⟩
  have := bus_rg ha
  unfold bfM
  split <;> omega
theorem beg_now (hc : SimC c A) (g : gGd A) (hsp : ∀ k : Int, 0 ≤ k → k < 2 → sp k = A (460 + k)) (ha : a = -1 ∨ onBr A a) (hk : 0 ≤ k ∧ k < 2) : lenf c sp a k = wiM A (bfM a) k ∧ begf c a k = if wiM A (bfM a) k = 0 then 0 else beM A (bfM a) k := by
  unfold lenf begf wiM beM bfM spc
  rcases ha with q | q
  · rw [if_pos q, if_pos hk, if_pos (Or.inl q), if_pos q, if_pos rfl, if_pos rfl, hsp k hk.1 hk.2]
    exact ⟨rfl, by split <;> rfl⟩
  · have hr := th_rg q.1.1
    obtain ⟨e1, e2⟩ := (sc_17 hc q).2.2 k hk.1 hk.2
    simp only [show ¬ a = -1 by omega, show ¬ a = 20 by omega, if_false, false_or, e1, e2]
    trivial
theorem buOK_now (hc : SimC c A) (g : gGd A) (hsp : ∀ k : Int, 0 ≤ k → k < 2 → sp k = A (460 + k)) (ha : a = -1 ∨ onBr A a) (hk : 0 ≤ k ∧ k < 2) : BuOK c sp a k := by
  obtain ⟨h1, h2⟩ := beg_now hc g hsp ha hk
  obtain ⟨b1, b2, b3⟩ := bw_now g ha hk
  unfold BuOK
  rw [h1, h2]
  split <;> omega
theorem Inv_sp (hI : Inv gGd im) : ∀ k : Int, 0 ≤ k → k < 2 → im (nowT (im 1 1) + 2) k = im 172 (460 + k) := hI.1.2.2.2.2.1.1.2.1
/-- sums of sizes -/
theorem un_sm (hM : MG A) (he : 0 ≤ e ∧ e < 20) : smL (fun t => wdT A t k) (apsR A e k) = unM A e k := by
  have h5 := MG_many hM he
  have key : ∀ (m : Nat) (i s : Int), 0 ≤ i → i + m ≤ 3 → lp (usM A e k) m i s = s + smL (fun t => wdT A t k) ((rgL i m).flatMap (fun x => if A (23 * e + (6 + x)) = k then [3 * e + x] else [])) := by
    intro m
    induction m with
    | zero =>
      intro i s _ _
      simp only [lp, rgL, List.flatMap_nil, smL]
      omega
    | succ m ih =>
      intro i s i0 i1
      simp only [lp, rgL, List.flatMap_cons, smL_app]
      rw [ih (i + 1) _ (by omega) (by omega)]
      unfold usM
      have hp := prT_ap (A := A) (k := k) he.1 he.2 i0 (show i < 3 by omega)
      unfold prT at hp
      rw [Prod.mk.injEq] at hp
      by_cases q : A (23 * e + (6 + i)) = k
      · rw [if_pos q, if_pos q]
        simp only [smL]
        rw [hp.2]
        omega
      · rw [if_neg q, if_neg q]
        simp only [smL]
        omega
  unfold unM apsR
  rw [key _ 0 0 (by omega) (by omega)]
  omega
theorem sp_units : Sp2 99 (Inv gGd) 126 258 := by
  intro im hI k _ w _
  have hc := Inv_c hI
  have g := Inv_g hI
  have hF := Inv_F hI
  have hC := Inv_Cls hI
  refine (c_units (d := 95) (Inv_hh hI) rfl hF.1.2 (Cls_TG hC)).mpr ?_
  by_cases c1 : 0 ≤ k ∧ k < 2
  · rw [if_pos c1]
    have hS : Inv gGd (if w = 1 then hsM im (nowT (im 1 1)) (-1) k else im) := by
      split
      · refine act_stay hI (fun p hp => hsM_ne (by omega)) ?_
        rw [hsM_ne (by omega)]
        exact hI.2.2.1
      · exact hI
    have hA : (if w = 1 then hsM im (nowT (im 1 1)) (-1) k else im) 172 = im 172 := by
      split
      · exact hsM_ne (by omega)
      · rfl
    generalize (if w = 1 then hsM im (nowT (im 1 1)) (-1) k else im) = Y at hS hA
    refine ⟨_, rfl, (c_unitsM (d := 96) (by rw [hA]; exact g.1.1)).mpr ⟨?_, hS⟩⟩
    rw [hA]
    by_cases c2 : 0 ≤ w ∧ w ≤ 3
    · rw [if_pos ⟨by omega, c2⟩]
      have hbr : ∀ e, thM (im 172) e → ¬ epM (im 172) e → brM (im 172) e := fun e ht hn => ⟨ht, (hc e (th_rg ht).1 (th_rg ht).2).1.resolve_left (fun s => hn ⟨ht, s⟩)⟩
      rcases (show w = 0 ∨ w = 1 ∨ w = 2 ∨ w = 3 by omega) with rfl | rfl | rfl | rfl
      · rw [if_pos rfl]
        have e1 : lp (utF (im 172) k 0) 20 0 0 = lp (auf (im (nowT (im 1 1) + 1)) k 1) 20 0 0 := lp_congr 20 0 0 (fun e e0 e1 s => by
          unfold utF auf
          by_cases ho : onM (im 172) e
          · rw [if_pos ⟨ho.1, Or.inr ho⟩, if_pos ⟨by omega, Or.inl (by omega)⟩, if_neg (by omega)]
            by_cases hep : epM (im 172) e
            · rw [if_pos ⟨(sc_ep hc).mpr hep, Or.inl ((sc_on hc).mpr ho)⟩, un_eq hc ho.1]
              omega
            · rw [if_neg (fun q => hep ((sc_ep hc).mp q.1)), un_br g.1 (hbr e ho.1 hep)]
              omega
          · rw [if_neg (fun q => q.2.elim (by omega) ho), if_neg (fun q => q.2.elim (fun r => ho ((sc_on hc).mp r)) (by omega))])
        rw [e1]
      · rw [if_neg (by omega), if_pos rfl]
        have e1 : lp (utF (im 172) k 1) 20 0 0 = totS (hsZ im (nowT (im 1 1)) (-1) k) := by
          unfold hsZ
          rw [tot_now hc g hF (Cls_HsB hC) c1 (Or.inl rfl)]
          unfold reT
          rw [smL_flat]
          have hu : ∀ e s, 0 ≤ e → e < 20 → utF (im 172) k 1 e s = s + smL (fun t => wdT (im 172) t k) (thR (im 172) (bfM (-1)) k e) := fun e s e0 e1 => by
            have hb := bu_iff (a := -1) g.1.1 ⟨e0, e1⟩ (Or.inl rfl)
            have hM := MG_at g.1.1 (dv := e) ⟨e0, e1⟩
            have hw := MG_win g.1.1 (dv := e) ⟨e0, e1⟩ c1
            unfold utF thR
            by_cases ho : onM (im 172) e
            · rw [if_pos ⟨ho.1, Or.inr ho⟩]
              by_cases ha : im 172 (23 * e + 2) < 0
              · rw [if_pos ⟨by omega, Or.inr ha⟩, if_pos ⟨Or.inl rfl, Or.inr ha⟩, if_pos ⟨ho, hb.mpr (by omega)⟩, smL_app, un_sm g.1.1 ⟨e0, e1⟩]
                split
                · simp only [smL]
                  have hp := prT_br (A := im 172) (k := k) e0
                  unfold prT at hp
                  rw [Prod.mk.injEq] at hp
                  rw [hp.2]
                  omega
                · simp only [smL]
                  omega
              · rw [if_neg (fun q => q.2.elim (by omega) ha), if_neg (fun q => q.2.elim (by omega) ha), if_neg (fun q => ha (by have := hb.mp q.2; omega))]
                simp only [smL]
                omega
            · rw [if_neg (fun q => q.2.elim (by omega) ho), if_neg (fun q => ho q.1)]
              simp only [smL]
              omega
          have key : ∀ (m : Nat) (i s : Int), 0 ≤ i → i + m ≤ 20 → lp (utF (im 172) k 1) m i s = s + smL (fun e => smL (fun t => wdT (im 172) t k) (thR (im 172) (bfM (-1)) k e)) (rgL i m) := by
            intro m
            induction m with
            | zero =>
              intro i s _ _
              simp only [lp, rgL, smL]
              omega
            | succ m ih =>
              intro i s i0 i1
              simp only [lp, rgL, smL]
              rw [ih (i + 1) _ (by omega) (by omega), hu i s i0 (by omega)]
              omega
          rw [key 20 0 0 (by omega) (by omega)]
          omega
        rw [e1]
      · rw [if_neg (by omega), if_neg (by omega), if_pos rfl]
        have e1 : lp (utF (im 172) k 2) 20 0 0 = lp (wuf (im (nowT (im 1 1) + 1)) k) 20 0 0 := lp_congr 20 0 0 (fun e e0 e1 s => by
          unfold utF wuf
          by_cases ho : onM (im 172) e
          · rw [if_pos ⟨ho.1, Or.inr ho⟩, if_neg (by omega), if_pos ⟨by omega, Or.inl (by omega)⟩]
            by_cases hep : epM (im 172) e
            · rw [if_neg (fun q => by have := (sc_ep hc).mpr hep; omega), g.1.2.2.2.2.2.2.2.2 e k hep c1.1 c1.2]
              omega
            · have hb : onBr (im 172) e := ⟨ho, (hbr e ho.1 hep).2⟩
              rw [if_pos ((sc_onBr hc).mpr hb), ((sc_17 hc hb).2.2 k c1.1 c1.2).2]
              omega
          · rw [if_neg (fun q => q.2.elim (by omega) ho), if_neg (fun q => ho ((sc_on hc).mp q.2))])
        rw [e1]
      · rw [if_neg (by omega), if_neg (by omega), if_neg (by omega), if_pos rfl]
        have e1 : lp (utF (im 172) k 3) 20 0 0 = lp (auf (im (nowT (im 1 1) + 1)) k 0) 20 0 0 := lp_congr 20 0 0 (fun e e0 e1 s => by
          unfold utF auf
          by_cases ht : thM (im 172) e
          · rw [if_pos ⟨ht, Or.inl rfl⟩, if_pos ⟨by omega, Or.inl (by omega)⟩, if_neg (by omega)]
            by_cases hep : epM (im 172) e
            · rw [if_pos ⟨(sc_ep hc).mpr hep, Or.inr rfl⟩, un_eq hc ht]
              omega
            · rw [if_neg (fun q => hep ((sc_ep hc).mp q.1)), un_br g.1 (hbr e ht hep)]
              omega
          · rw [if_neg (fun q => ht q.1), if_neg (fun q => ht ((sc_ep hc).mp q.1).1)])
        rw [e1]
    · rw [if_neg (fun q => c2 q.2), if_neg (by omega), if_neg (by omega), if_neg (by omega), if_neg (by omega)]
  · rw [if_neg c1]
    refine ⟨_, rfl, (c_unitsM (d := 96) g.1.1).mpr ⟨?_, hI⟩⟩
    rw [if_neg (fun q => c1 (by omega))]
end BK
