/-! POWER-UP: what numbering leaves, on both sides -/
section FB1
variable {X Y : zM} {c c' c0 cR A B w o O0 : Int → Int} {e f a b k t x v n d i q m : Int} {on on' : Int → Bool} {y : zNB} {z : zNo}
/-- who is ON, and numbers -/
def NoR (A : Int → Int) (on : Int → Bool) : Prop := (∀ e, on e = true → A (23 * e + 2) = -1 ∨ (on (A (23 * e + 2)) = true ∧ A (23 * A (23 * e + 2) + 1) = 1)) ∧ (∀ e, on e = true → A (23 * e + 1) = 1 → (1 ≤ A (23 * e + 17) ∧ A (23 * e + 17) ≤ A (23 * e + 18) ∧ A (23 * e + 18) ≤ 31) ∧ (A (23 * e + 2) ≠ -1 → A (23 * A (23 * e + 2) + 17) < A (23 * e + 17) ∧ A (23 * e + 18) ≤ A (23 * A (23 * e + 2) + 18))) ∧ ∀ e e', e ≠ e' → on e = true → A (23 * e + 1) = 1 → on e' = true → A (23 * e' + 1) = 1 → A (23 * e + 2) = A (23 * e' + 2) → A (23 * e + 18) < A (23 * e' + 17) ∨ A (23 * e' + 18) < A (23 * e + 17)
/-- nothing is laid down yet -/
def RwC (A : Int → Int) : Prop := ∀ e, thM A e → (∀ x : Int, 0 ≤ x → x < 3 → A (23 * e + (12 + x)) = -1) ∧ ∀ k : Int, 0 ≤ k → k < 2 → A (23 * e + (19 + k)) = -1 ∧ A (23 * e + (21 + k)) = 0
/-- the class's cells on the way -/
def PwI (cR A : Int → Int) (on : Int → Bool) (w : Int → Int) (n : Int) (c : Int → Int) : Prop := gT A ∧ WkF A w n ∧ MeC c A on ∧ (∀ e, on e = true → thM A e) ∧ (∀ e, 0 ≤ e → e < 20 → gt c e 3 = 1 → thM A e) ∧ (∀ e f : Int, f < 20 → f ≠ 3 → f ≠ 7 → f ≠ 8 → gt c e f = gt cR e f) ∧ (∀ e, thM A e → on e = false → ∀ k : Int, 0 ≤ k → k < 2 → gt c e (20 + k) = 0) ∧ (∀ k : Int, 0 ≤ k → k < 2 → MsW c on k) ∧ NoR A on ∧ (∀ e, on e = true → A (23 * e + 1) = 1 → gt c e 7 = A (23 * e + 17) ∧ gt c e 8 = A (23 * e + 18)) ∧ RwC A
theorem num_both (hT : GdT gGd X 120 A) (hY : Y 172 = A) : NB (runC X 120) ∧ MU (puA A) ∧ MG (puA A) ∧ NuP (goO Y).1 (goO Y).2.toNat 0 ((puA A, Y 180, 0, 1), fun _ => false) ∧ PwI (runC X 120) (goX Y 172) (goN Y) (X 123) (X 120 4) (nbS (X 123) (X 120 4) 5 (-1) 1 (runC X 120)).2 ∧ WkF (goX Y 172) (goO Y).1 (goO Y).2 ∧ StR A (goX Y 172) ∧ (∀ j : Int, 460 ≤ j → j ≠ 462 → goX Y 172 j = A j) ∧ goX Y 172 462 = 0 := by
  obtain ⟨h1, g, hC⟩ := id hT
  have t1 : SimC (X 121) A := h1.1
  have hC : Cls (X 121) := hC
  have hs := gT_S g.1
  obtain ⟨p1, p2, p3, p4, p5⟩ := pu_good g
  have h4 := StR_4 p2
  have hs1 := gS_of h4 hs
  have hF : WkF A (X 123) (X 120 4) := TrI_F hs h1
  have hF1 : WkF (puA A) (X 123) (X 120 4) := WkF_Sh4 h4 hs hF
  have hR : ∀ e f : Int, gt (runC X 120) e f = if 0 ≤ e ∧ e < 20 then offv f (gt (X 121) e f) else gt (X 121) e f := fun e f => by
    have := off_all 20 0 (X 121) (Int.le_refl _) (by omega) e f
    unfold runC
    rw [this, show (0 : Int) + ((20 : Nat) : Int) = 20 by omega]
  have hth1 : ∀ e, thM (puA A) e ↔ thM A e := fun e => Sh4_th h4
  have hRs : ∀ e, thM A e → ∀ f : Int, gt (runC X 120) e f = offv f (gt (X 121) e f) := fun e he f => by rw [hR, if_pos (th_rg he)]
  have hnv : ∀ f v : Int, (f ≠ 3 ∧ f ≠ 7 ∧ f ≠ 8 ∧ (f < 15 ∨ 21 < f)) → offv f v = v := fun f v hf => by
    unfold offv
    (repeat' split) <;> first | rfl | omega
  have hNB : NB (runC X 120) := fun e e0 e1 => by
    rw [hR, if_pos ⟨e0, e1⟩, hnv 4 _ (by omega)]
    have := (hC e e0 e1).2.1
    omega
  have hst : ∀ e, thM A e → ∀ f, StF f → puA A (23 * e + f) = A (23 * e + f) := fun e he f hf => p2 e f (th_rg he).1 (th_rg he).2 hf
  have hc0 : ∀ e, thM (puA A) e → gt (runC X 120) e 0 = 1 + puA A (23 * e + 1) ∧ gt (runC X 120) e 1 = puA A (23 * e + 2) ∧ gt (runC X 120) e 4 = puA A (23 * e + 15) := fun e he => by
    have he := (hth1 e).mp he
    obtain ⟨d1, d2, d3, d4, d5, d6, d7, d8, d9⟩ := sc_d t1 he
    rw [hRs e he, hRs e he, hRs e he, hnv 0 _ (by omega), hnv 1 _ (by omega), hnv 4 _ (by omega), hst e he 1 (by unfold StF; omega), hst e he 2 (by unfold StF; omega), hst e he 15 (by unfold StF; omega)]
    exact ⟨d1, d2, d6⟩
  -- the walk of the reference
  have hw172 : setc Y 172 (puA A) 172 = puA A := setc_at _ _ _
  obtain ⟨w1, w2⟩ := wa_eq (im := setc Y 172 (puA A))
  rw [hw172] at w1 w2
  have eO : goO Y = waM (setc Y 172 (puA A)) := by
    unfold goO
    rw [hY]
  rw [← eO] at w1 w2
  have hFo : WkF (puA A) (goO Y).1 (goO Y).2 := by
    rw [w1]
    exact WkF_congr (wk_F hs1) (fun i i0 i1 => w2 i i0 (by omega))
  have hList : (rgL 0 (goO Y).2.toNat).map (goO Y).1 = dfs (puA A) 5 (-1) := by
    rw [← wk_dfs hs1, ← w1]
    exact lsO_congr (fun i i0 i1 => w2 i i0 i1)
  -- numbering
  have hz0 : NuM (puA A) 0 [] (runC X 120) (Y 180) (1, runC X 120) ((puA A, Y 180, 0, 1), fun _ => false) 0 := by
    refine ⟨NuI0, rfl, fun _ _ => rfl, fun j j0 j1 => by omega, ⟨rfl, fun e he => ?_⟩, fun _ _ _ _ _ => rfl, fun _ _ _ => rfl⟩
    have he' := (hth1 e).mp he
    obtain ⟨-, q17, q18, -, -⟩ := p5 e he'
    show gt (runC X 120) e 7 = puA A (23 * e + 17) ∧ gt (runC X 120) e 8 = puA A (23 * e + 18) ∧ (gt (runC X 120) e 3 = 1 ↔ false = true)
    rw [hRs e he', hRs e he', hRs e he', q17, q18]
    refine ⟨rfl, rfl, fun q => ?_, fun q => absurd q (by decide)⟩
    exact absurd (show (0 : Int) = 1 from q) (by decide)
  obtain ⟨n1, ⟨m, n2⟩, n3⟩ := nu_bus p1.1 hs1 hF1 hc0 5 (-1) 0 (Y 180) (1, runC X 120) ((puA A, Y 180, 0, 1), fun _ => false) (Or.inl rfl) (by omega) (Or.inl ⟨rfl, rfl⟩) (fun q => by omega) hz0 (fun _ _ => rfl)
  obtain ⟨r1, r2⟩ := nb_rg p1.1 hs1 hF1 hc0 5 (-1) (1, runC X 120) (Or.inl rfl) (by dsimp only; omega) (fun _ _ _ _ _ => rfl) (fun d hd => by
    have he' := (hth1 d).mp (dfs_th hs1 5 _ d hd).1
    show gt (runC X 120) d 3 ≠ 1
    rw [hRs d he']
    exact fun q => absurd (show (0 : Int) = 1 from q) (by decide))
  have hO := nbS_O (w := X 123) (n := X 120 4) 5 (-1) 1 (runC X 120)
  have hNu : NuP (goO Y).1 (goO Y).2.toNat 0 ((puA A, Y 180, 0, 1), fun _ => false) := NuP_L _ _ _ (by rw [hList]; exact n1)
  have h180 : setc Y 172 (puA A) 180 = Y 180 := setc_ne _ _ (by omega)
  have eZ : nuZ (setc Y 172 (puA A)) = (dfs (puA A) 5 (-1)).foldl nuG ((puA A, Y 180, 0, 1), fun _ => false) := by
    unfold nuZ
    rw [← eO, hw172, h180, nu_lp, hList]
  have hA1 : goX Y 172 = (nuE (setc Y 172 (puA A))).1 := by
    unfold goX
    rw [hY, nbm_A]
  have hN1 : goN Y = (nuZ (setc Y 172 (puA A))).2 := by
    unfold goN
    rw [hY]
  have eE : nuE (setc Y 172 (puA A)) = clA (nuZ (setc Y 172 (puA A))).1.2.2.1.toNat (nuZ (setc Y 172 (puA A))).1 := rfl
  rw [← eZ] at n2
  obtain ⟨j1, j2, j3, j4, j5, j6, j7⟩ := n2
  have hhm : (nuZ (setc Y 172 (puA A))).1.2.2.1.toNat = m := by omega
  rw [hhm] at eE
  have hEI : NuI (puA A) (nuE (setc Y 172 (puA A))) := by
    rw [eE]
    exact clA_I p1.1 m _ j1 (by omega)
  have hEh : ∀ j : Int, 0 ≤ j → (460 ≤ j ∨ ¬ thM (puA A) (j / 23)) → goX Y 172 j = puA A j := fun j j0 hj => by
    rw [hA1, eE, clA_hi p1.1 m _ j1 (by omega) (fun i i0 i1 => (dfs_th hs1 _ _ _ (j4 i (by omega) (by omega))).1) j j0 hj]
    exact j7 j j0 hj
  rw [← eE, ← hN1] at j5
  have hrow : ∀ e f : Int, 0 ≤ e → e < 20 → 0 ≤ f → f < 23 → f ≠ 17 → f ≠ 18 → goX Y 172 (23 * e + f) = puA A (23 * e + f) := fun e f e0 e1 f0 f1 f2 f3 => by
    rw [hA1]
    exact hEI.2.2.2 e f e0 e1 f0 f1 f2 f3
  unfold NuR at j5
  rw [← hA1] at j5
  generalize goX Y 172 = An at *
  generalize goN Y = on at *
  generalize goO Y = gO at *
  obtain ⟨-, j5⟩ := j5
  dsimp only at r1 r2 j5 j6
  generalize hcd : (nbS (X 123) (X 120 4) 5 (-1) 1 (runC X 120)) = yN at *
  have hSt : StR A An := fun e f e0 e1 hf => by
    have hf' := hf
    unfold StF at hf'
    rw [hrow e f e0 e1 (by omega) (by omega) (by omega) (by omega)]
    exact p2 e f e0 e1 hf
  have hSt1 : StR (puA A) An := fun e f e0 e1 hf => by
    unfold StF at hf
    exact hrow e f e0 e1 (by omega) (by omega) (by omega) (by omega)
  have h4n := StR_4 hSt1
  have hthn : ∀ e, thM An e ↔ thM A e := fun e => Sh4_th (StR_4 hSt)
  -- who is ON is there
  have hon : ∀ e, on e = true → thM An e := fun e he => by
    refine Decidable.byContradiction fun q => ?_
    have h0 := n3 e (fun r => q ((hthn e).mpr ((hth1 e).mp (dfs_th hs1 5 _ e r).1)))
    rw [← eZ, ← hN1, he] at h0
    exact absurd (show true = false from h0) (by decide)
  have hsg : ∀ e, thM A e → gt yN.2 e 0 = 1 + A (23 * e + 1) := fun e he => by
    rw [j6 e 0 (by omega) (by omega) (by omega), (hc0 e ((hth1 e).mpr he)).1, hst e he 1 (by unfold StF; omega)]
  -- numbers within bounds
  have h78 : ∀ e, thM A e → (An (23 * e + 17) = -1 ∧ An (23 * e + 18) = -1) ∨ (on e = true ∧ A (23 * e + 1) = 1) := fun e he => by
    obtain ⟨u1, u2, u3⟩ := j5 e ((hth1 e).mpr he)
    by_cases q : gt yN.2 e 3 = 1 ∧ gt yN.2 e 0 = 2
    · right
      have := hsg e he
      exact ⟨u3.mp q.1, by omega⟩
    · left
      obtain ⟨o1, o2⟩ := hO.2.2 e q
      rw [← u1, ← u2, o1, o2, hRs e he, hRs e he]
      exact ⟨rfl, rfl⟩
  have hL : ∀ e, thM A e → e ∈ dfs (puA A) 5 (-1) := fun e he => (dfs_iff hs1).mpr ((hth1 e).mpr he)
  have hNo : NoR An on := by
    obtain ⟨⟨-, a2⟩, a3, a4, a5⟩ := r1
    have hcell : ∀ e, on e = true → thM A e ∧ gt yN.2 e 3 = 1 ∧ gt yN.2 e 7 = An (23 * e + 17) ∧ gt yN.2 e 8 = An (23 * e + 18) := fun e he => by
      have ht := (hthn e).mp (hon e he)
      obtain ⟨u1, u2, u3⟩ := j5 e ((hth1 e).mpr ht)
      exact ⟨ht, u3.mpr he, u1, u2⟩
    have hst2 : ∀ e, thM A e → An (23 * e + 2) = puA A (23 * e + 2) ∧ An (23 * e + 1) = puA A (23 * e + 1) := fun e he => ⟨hSt1 e 2 (th_rg he).1 (th_rg he).2 (by unfold StF; omega), hSt1 e 1 (th_rg he).1 (th_rg he).2 (by unfold StF; omega)⟩
    refine ⟨fun e he => ?_, fun e he hb => ?_, fun e e' hne he hb he' hb' hp => ?_⟩
    · obtain ⟨ht, c3, c7, c8⟩ := hcell e he
      obtain ⟨s2, s1⟩ := hst2 e ht
      rw [s2]
      rcases a3 e (hL e ht) c3 with r | ⟨r, r'⟩
      · exact Or.inl r
      · right
        have htp := (dfs_th hs1 5 _ _ r).1
        have hbr : brM (puA A) (puA A (23 * e + 2)) := (hs1.2.1 e ((hth1 e).mpr ht)).resolve_left (by have := htp.1; omega)
        refine ⟨(j5 _ htp).2.2.mp r', ?_⟩
        rw [(hst2 _ ((hth1 _).mp htp)).2]
        exact hbr.2
    · obtain ⟨ht, c3, c7, c8⟩ := hcell e he
      obtain ⟨s2, s1⟩ := hst2 e ht
      rw [s1] at hb
      obtain ⟨u1, u2⟩ := a4 e (hL e ht) c3 hb
      rw [c7, c8] at u1 u2
      refine ⟨by omega, fun hp => ?_⟩
      rw [s2] at hp ⊢
      have u2 := u2 hp
      rcases a3 e (hL e ht) c3 with r | ⟨r, r'⟩
      · exact absurd r hp
      · obtain ⟨v1, v2, v3⟩ := j5 _ (dfs_th hs1 5 _ _ r).1
        rw [v1, v2] at u2
        exact u2
    · obtain ⟨ht, c3, c7, c8⟩ := hcell e he
      obtain ⟨ht', c3', c7', c8'⟩ := hcell e' he'
      rw [(hst2 e ht).1, (hst2 e' ht').1] at hp
      rw [(hst2 e ht).2] at hb
      rw [(hst2 e' ht').2] at hb'
      have := a5 e (hL e ht) e' (hL e' ht') hne c3 hb c3' hb' hp
      rw [c7, c8, c7', c8'] at this
      exact this
  have hMG : MG An := fun e e0 e1 => by
    obtain ⟨m1, m2, m3, m4, m5, m6, m7, m8, m9, m10, m11⟩ := p1.1 e e0 e1
    rw [hrow e 1 e0 e1 (by omega) (by omega) (by omega) (by omega), hrow e 2 e0 e1 (by omega) (by omega) (by omega) (by omega), hrow e 3 e0 e1 (by omega) (by omega) (by omega) (by omega), hrow e 4 e0 e1 (by omega) (by omega) (by omega) (by omega), hrow e 5 e0 e1 (by omega) (by omega) (by omega) (by omega), hrow e 15 e0 e1 (by omega) (by omega) (by omega) (by omega), hrow e 16 e0 e1 (by omega) (by omega) (by omega) (by omega)]
    have hb : (-1 ≤ An (23 * e + 17) ∧ An (23 * e + 17) ≤ 31) ∧ (-1 ≤ An (23 * e + 18) ∧ An (23 * e + 18) ≤ 31) := by
      by_cases q : thM A e
      · rcases h78 e q with r | ⟨r, r'⟩
        · omega
        · have hb1 : An (23 * e + 1) = 1 := by rw [hSt e 1 e0 e1 (by unfold StF; omega)]; exact r'
          have := (hNo.2.1 e r hb1).1
          omega
      · have d1 : (23 * e + 17) / 23 = e := by omega
        have d2 : (23 * e + 18) / 23 = e := by omega
        rw [hEh (23 * e + 17) (by omega) (Or.inr (by rw [d1]; exact fun r => q ((hth1 e).mp r))), hEh (23 * e + 18) (by omega) (Or.inr (by rw [d2]; exact fun r => q ((hth1 e).mp r)))]
        exact ⟨m9, m10⟩
    refine ⟨m1, m2, m3, m4, m5, fun x x0 x1 => ?_, m7, m8, hb.1, hb.2, fun k k0 k1 => ?_⟩
    · rw [hrow e (6 + x) e0 e1 (by omega) (by omega) (by omega) (by omega), hrow e (9 + x) e0 e1 (by omega) (by omega) (by omega) (by omega), hrow e (12 + x) e0 e1 (by omega) (by omega) (by omega) (by omega)]
      exact m6 x x0 x1
    · rw [hrow e (19 + k) e0 e1 (by omega) (by omega) (by omega) (by omega), hrow e (21 + k) e0 e1 (by omega) (by omega) (by omega) (by omega)]
      exact m11 k k0 k1
  have h462 : An 462 = 0 := by rw [hEh 462 (by omega) (Or.inl (by omega)), p4]
  have hhi : ∀ j : Int, 460 ≤ j → j ≠ 462 → An j = A j := fun j hj hne => by rw [hEh j (by omega) (Or.inl hj), p3 j hj hne]
  have hgT : gT An := gT_st hSt1 p1 hMG (by rw [h462]; omega) (fun k k0 k1 => hEh _ (by omega) (Or.inl (by omega))) (fun e k he k0 k1 => by
    have hq := (Sh4_ep h4n).mp he
    have hr := th_rg hq.1
    rw [hrow e (21 + k) hr.1 hr.2 (by omega) (by omega) (by omega) (by omega)]
    exact ((p5 e ((hth1 e).mp hq.1)).2.2.2.2 k k0 k1).2)
  have hK20 : ∀ e f : Int, f ≠ 3 → f ≠ 7 → f ≠ 8 → gt yN.2 e f = gt (runC X 120) e f := j6
  have h20 : ∀ e, thM A e → ∀ k : Int, 0 ≤ k → k < 2 → gt yN.2 e (20 + k) = 0 := fun e he k k0 k1 => by
    rw [hK20 e _ (by omega) (by omega) (by omega), hRs e he]
    unfold offv
    rw [if_neg (by omega), if_neg (by omega), if_pos (by omega)]
  have hMe : MeC yN.2 An on := by
    refine ⟨?_, fun e he => ?_, fun e e0 e1 => ?_⟩
    · have hS0 : SimW (X 121) A := SimW_of t1
      refine SimW_A (SimW_gt hS0 (fun e f f0 f1 => ?_)) (fun e f e0 e1 f0 f1 => hSt e f e0 e1 (by unfold StF; omega))
      rw [hK20 e f (by omega) (by omega) (by omega), hR]
      split
      · exact hnv f _ (by omega)
      · rfl
    · have he' := (hthn e).mp he
      have hr := th_rg he'
      obtain ⟨d1, d2, d3, d4, d5, d6, d7, d8, d9⟩ := sc_d t1 he'
      have h5 := MG_many g.1.1 hr
      rw [hK20 e 0 (by omega) (by omega) (by omega), hK20 e 6 (by omega) (by omega) (by omega), hK20 e 5 (by omega) (by omega) (by omega), hRs e he', hRs e he', hRs e he', hnv 0 _ (by omega), hnv 6 _ (by omega), hnv 5 _ (by omega), hSt e 1 hr.1 hr.2 (by unfold StF; omega), hSt e 5 hr.1 hr.2 (by unfold StF; omega), hSt e 16 hr.1 hr.2 (by unfold StF; omega)]
      refine ⟨d1, (j5 e ((hth1 e).mpr he')).2.2, d5, d7, fun x x0 x1 => ?_⟩
      rw [hK20 e (9 + x) (by omega) (by omega) (by omega), hK20 e (12 + x) (by omega) (by omega) (by omega), hRs e he', hRs e he', hnv (9 + x) _ (by omega), hnv (12 + x) _ (by omega), hSt e (6 + x) hr.1 hr.2 (by unfold StF; omega), hSt e (9 + x) hr.1 hr.2 (by unfold StF; omega)]
      exact ⟨(d8 x x0 x1).1, (d8 x x0 x1).2.1⟩
    · rw [hK20 e 6 (by omega) (by omega) (by omega), hR, if_pos ⟨e0, e1⟩, hnv 6 _ (by omega)]
      exact Cls_HsB hC e e0 e1
  have hWn : WkF An (X 123) (X 120 4) := WkF_Sh4 h4n hs1 hF1
  refine ⟨hNB, p1.2.1, p1.1, hNu, ⟨hgT, hWn, hMe, hon, fun e e0 e1 h3 => ?_, fun e f _ f3 f7 f8 => hK20 e f f3 f7 f8, fun e he _ k k0 k1 => h20 e ((hthn e).mp he) k k0 k1, fun k k0 k1 e he => ?_, hNo, fun e he _ => ?_, fun e he => ?_⟩, WkF_Sh4 h4n hs1 hFo, hSt, hhi, h462⟩
  · refine Decidable.byContradiction fun q => ?_
    have hne : e ∉ dfs (puA A) 5 (-1) := fun r => q ((hthn e).mpr ((hth1 e).mp (dfs_th hs1 5 _ e r).1))
    rw [r2 e hne 3, hR, if_pos ⟨e0, e1⟩] at h3
    exact absurd (show (0 : Int) = 1 from h3) (by decide)
  · have := h20 e ((hthn e).mp (hon e he)) k k0 k1
    exact ⟨by omega, fun _ q => by omega⟩
  · have ht := (hthn e).mp (hon e he)
    obtain ⟨u1, u2, -⟩ := j5 e ((hth1 e).mpr ht)
    exact ⟨u1, u2⟩
  · have ht := (hthn e).mp he
    have hr := th_rg ht
    obtain ⟨-, -, -, v12, vk⟩ := p5 e ht
    refine ⟨fun x x0 x1 => ?_, fun k k0 k1 => ?_⟩
    · rw [hrow e (12 + x) hr.1 hr.2 (by omega) (by omega) (by omega) (by omega)]
      exact v12 x x0 x1
    · rw [hrow e (19 + k) hr.1 hr.2 (by omega) (by omega) (by omega) (by omega), hrow e (21 + k) hr.1 hr.2 (by omega) (by omega) (by omega) (by omega)]
      exact vk k k0 k1
end FB1
