/-! POWER-UP: refusing, in step -/
section FD1
variable {X Y : zM} {c c' c0 cR A B S w sp An o O0 : Int → Int} {e f a b k t x v n N d i q D : Int} {on on' : Int → Bool} {r : zLy} {z : zSS} {y : zPw} {m : Nat}
/-- what lies beyond the rows doesn't matter -/
theorem PwI_hi (h : ∀ j : Int, j < 462 → B j = A j) (h462 : 0 ≤ B 462 ∧ B 462 ≤ 20) (hP : PwI cR A on w n c) : PwI cR B on w n c := by
  obtain ⟨p1, p2, p3, p4, p5, p6, p7, p8, p9, p10, p11⟩ := hP
  have hr : ∀ e f : Int, e < 20 → f < 23 → B (23 * e + f) = A (23 * e + f) := fun e f e1 f1 => h _ (by omega)
  have hst : StR A B := fun e f e0 e1 hf => hr e f e1 hf.2.1
  have h4 := StR_4 hst
  have hth : ∀ e, thM B e ↔ thM A e := fun e => Sh4_th h4
  refine ⟨gT_st hst p1 (MG_frame p1.1 (fun e e0 e1 => Or.inl (fun f f0 f1 => hr e f e1 f1))) h462 (fun k k0 k1 => h _ (by omega)) (fun e k he k0 k1 => ?_), WkF_Sh4 h4 (gT_S p1) p2, ⟨SimW_A p3.1 (fun e f e0 e1 f0 f1 => hr e f e1 (by omega)), fun e he => ?_, p3.2.2⟩, fun e he => (hth e).mpr (p4 e he), fun e e0 e1 h3 => (hth e).mpr (p5 e e0 e1 h3), p6, fun e he => p7 e ((hth e).mp he), p8, ⟨fun e he => ?_, fun e he hb => ?_, fun e e' hne he hb he' hb' hp => ?_⟩, fun e he hb => ?_, fun e he => ?_⟩
  · have hq := (Sh4_ep h4).mp he
    rw [hr e _ (th_rg hq.1).2 (by omega)]
    exact p1.2.2.2.2.2.2.2.2 e k hq k0 k1
  · have he' := (hth e).mp he
    have e1 := (th_rg he').2
    rw [hr e 1 e1 (by omega), hr e 5 e1 (by omega), hr e 16 e1 (by omega)]
    obtain ⟨q1, q2, q3, q4, q5⟩ := p3.2.1 e he'
    have h5 := MG_many p1.1 (th_rg he')
    refine ⟨q1, q2, q3, q4, fun x x0 x1 => ?_⟩
    rw [hr e (6 + x) e1 (by omega), hr e (9 + x) e1 (by omega)]
    exact q5 x x0 x1
  · have e1 := (th_rg (p4 e he)).2
    rw [hr e 2 e1 (by omega)]
    refine (p9.1 e he).imp id (fun q => ⟨q.1, ?_⟩)
    rw [hr _ 1 (th_rg (p4 _ q.1)).2 (by omega)]
    exact q.2
  · have e1 := (th_rg (p4 e he)).2
    rw [hr e 1 e1 (by omega)] at hb
    rw [hr e 2 e1 (by omega), hr e 17 e1 (by omega), hr e 18 e1 (by omega)]
    obtain ⟨u1, u2⟩ := p9.2.1 e he hb
    refine ⟨u1, fun hp => ?_⟩
    rcases p9.1 e he with q | q
    · exact absurd q hp
    · have e2 := (th_rg (p4 _ q.1)).2
      rw [hr _ 17 e2 (by omega), hr _ 18 e2 (by omega)]
      exact u2 hp
  · have e1 := (th_rg (p4 e he)).2
    have e2 := (th_rg (p4 e' he')).2
    rw [hr e 1 e1 (by omega)] at hb
    rw [hr e' 1 e2 (by omega)] at hb'
    rw [hr e 2 e1 (by omega), hr e' 2 e2 (by omega)] at hp
    rw [hr e 17 e1 (by omega), hr e 18 e1 (by omega), hr e' 17 e2 (by omega), hr e' 18 e2 (by omega)]
    exact p9.2.2 e e' hne he hb he' hb' hp
  · have e1 := (th_rg (p4 e he)).2
    rw [hr e 1 e1 (by omega)] at hb
    rw [hr e 17 e1 (by omega), hr e 18 e1 (by omega)]
    exact p10 e he hb
  · have he' := (hth e).mp he
    have e1 := (th_rg he').2
    obtain ⟨u1, u2⟩ := p11 e he'
    refine ⟨fun x x0 x1 => ?_, fun k k0 k1 => ?_⟩
    · rw [hr e _ e1 (by omega)]
      exact u1 x x0 x1
    · rw [hr e _ e1 (by omega), hr e _ e1 (by omega)]
      exact u2 k k0 k1
/-- one goes OFF with what is behind it -/
theorem PwI_off (hR : ∀ e f : Int, 0 ≤ e → e < 20 → 15 ≤ f → f < 20 → gt cR e f = -1) (hP : PwI cR A on w n c) (ho : ∀ e, on' e = (on e && !wbB A D e)) : PwI cR A on' w n (lp (tof D) 20 0 (c, 0)).1 := by
  obtain ⟨p1, p2, p3, p4, p5, p6, p7, p8, p9, p10, p11⟩ := hP
  have hs := gT_S p1
  obtain ⟨t1, -⟩ := tof_gt (dv := D) 20 0 (c, 0) (Int.le_refl _) (by omega)
  dsimp only at t1
  have hto : ∀ e, toB c D e = true ↔ on e = true ∧ wbB A D e = true := fun e => by
    unfold toB
    rw [decide_eq_true_eq]
    constructor
    · rintro ⟨q1, q2⟩
      have hr : 0 ≤ e ∧ e < 20 := by
        unfold gt at q1
        split at q1
        · omega
        · omega
      have ht := p5 e hr.1 hr.2 q1
      refine ⟨(p3.2.1 e ht).2.1.mp q1, (wb_iff hs ht).mpr (q2.imp id (fun r => ?_))⟩
      rw [← bhB_eq p3.1 hs.2.1 ht]
      exact r
    · rintro ⟨q1, q2⟩
      have ht := p4 e q1
      refine ⟨(p3.2.1 e ht).2.1.mpr q1, ((wb_iff hs ht).mp q2).imp id (fun r => ?_)⟩
      rw [bhB_eq p3.1 hs.2.1 ht]
      exact r
  have hon' : ∀ e, on' e = true ↔ on e = true ∧ ¬ wbB A D e = true := fun e => by
    rw [ho, Bool.and_eq_true, Bool.not_eq_true']
    exact ⟨fun q => ⟨q.1, by rw [q.2]; decide⟩, fun q => ⟨q.1, Bool.eq_false_iff.mpr q.2⟩⟩
  have hg : ∀ e f : Int, gt (lp (tof D) 20 0 (c, 0)).1 e f = if on e = true ∧ wbB A D e = true then offv f (gt c e f) else gt c e f := fun e f => by
    rw [t1 e f]
    by_cases q : on e = true ∧ wbB A D e = true
    · have hr := th_rg (p4 e q.1)
      rw [if_pos q, if_pos ⟨hr.1, by omega, (hto e).mpr q⟩]
    · rw [if_neg q, if_neg (fun r => q ((hto e).mp r.2.2))]
  generalize (lp (tof D) 20 0 (c, 0)).1 = C at *
  have hsame : ∀ e f : Int, (f ≠ 3 ∧ f ≠ 7 ∧ f ≠ 8 ∧ (f < 15 ∨ 21 < f)) → gt C e f = gt c e f := fun e f hf => by
    rw [hg e f]
    split
    · unfold offv
      (repeat' split) <;> first | rfl | omega
    · rfl
  have hon2 : ∀ e, on' e = true → on e = true ∧ ∀ f : Int, gt C e f = gt c e f := fun e he => by
    obtain ⟨q1, q2⟩ := (hon' e).mp he
    exact ⟨q1, fun f => by rw [hg e f, if_neg (fun r => q2 r.2)]⟩
  refine ⟨p1, p2, ⟨SimW_gt p3.1 (fun e f f0 f1 => hsame e f (by omega)), fun e he => ?_, fun e e0 e1 => by rw [hsame e 6 (by omega)]; exact p3.2.2 e e0 e1⟩, fun e he => p4 e (hon2 e he).1, fun e e0 e1 h3 => ?_, fun e f f0 f3 f7 f8 => ?_, fun e he hf k k0 k1 => ?_, fun k k0 k1 e he => ?_, ⟨fun e he => ?_, fun e he hb => p9.2.1 e (hon2 e he).1 hb, fun e e' hne he hb he' hb' hp => p9.2.2 e e' hne (hon2 e he).1 hb (hon2 e' he').1 hb' hp⟩, fun e he hb => ?_, p11⟩
  · obtain ⟨q1, q2, q3, q4, q5⟩ := p3.2.1 e he
    have h5 := MG_many p1.1 (th_rg he)
    rw [hsame e 0 (by omega), hsame e 6 (by omega), hsame e 5 (by omega)]
    refine ⟨q1, ?_, q3, q4, fun x x0 x1 => ?_⟩
    · rw [hg e 3, hon' e]
      by_cases q : on e = true ∧ wbB A D e = true
      · rw [if_pos q]
        exact ⟨fun r => absurd (show (0 : Int) = 1 from r) (by decide), fun r => absurd q.2 r.2⟩
      · rw [if_neg q, q2]
        exact ⟨fun r => ⟨r, fun s => q ⟨r, s⟩⟩, fun r => r.1⟩
    · rw [hsame e (9 + x) (by omega), hsame e (12 + x) (by omega)]
      exact q5 x x0 x1
  · rw [hg e 3] at h3
    split at h3
    · exact absurd (show (0 : Int) = 1 from h3) (by decide)
    · exact p5 e e0 e1 h3
  · by_cases q : on e = true ∧ wbB A D e = true
    · have hr := th_rg (p4 e q.1)
      rw [hg e f, if_pos q, p6 e f f0 f3 f7 f8]
      by_cases r : 15 ≤ f
      · rw [hR e f hr.1 hr.2 r f0]
        unfold offv
        rw [if_neg (by omega), if_pos (by omega)]
      · unfold offv
        rw [if_neg (by omega), if_neg (by omega), if_neg (by omega)]
    · rw [hg e f, if_neg q]
      exact p6 e f f0 f3 f7 f8
  · rw [hg e (20 + k)]
    by_cases q : on e = true ∧ wbB A D e = true
    · rw [if_pos q]
      unfold offv
      rw [if_neg (by omega), if_neg (by omega), if_pos (by omega)]
    · rw [if_neg q]
      refine p7 e he (Bool.eq_false_iff.mpr (fun r => ?_)) k k0 k1
      have := (hon' e).mpr ⟨r, fun s => q ⟨r, s⟩⟩
      rw [hf] at this
      exact absurd this (by decide)
  · obtain ⟨q1, q2⟩ := hon2 e he
    rw [q2, q2, q2]
    exact p8 k k0 k1 e q1
  · obtain ⟨q1, q2⟩ := (hon' e).mp he
    refine (p9.1 e q1).imp id (fun r => ⟨(hon' _).mpr ⟨r.1, fun s => q2 ?_⟩, r.2⟩)
    exact wb_closed hs (p4 e q1) ⟨p4 _ r.1, r.2⟩ s
  · obtain ⟨q1, q2⟩ := hon2 e he
    rw [q2, q2]
    exact p10 e q1 hb
/-- the way of refusing -/
def LpI (cR An w : Int → Int) (n : Int) (S : zPS) (y : zPw) : Prop := PwI cR y.1 y.2.1 w n S.1.1 ∧ (∀ k : Int, 0 ≤ k → k < 2 → NdK y.1 y.2.1 k y.2.2) ∧ (S.2.2 = y.1 462 ∧ ∀ i : Int, 0 ≤ i → i < y.1 462 → S.2.1 i = y.1 (463 + i)) ∧ DK y.2.2.2.2.1 ∧ ∀ j : Int, j < 462 → y.1 j = An j
theorem cnt_less (h1 : ∀ e, on' e = (on e && !wbB A D e)) (hD : on D = true) (hr : 0 ≤ D ∧ D < 20) : lp (cntf on') 20 0 0 < lp (cntf on) 20 0 0 := by
  have hw : wbB A D D = true := by
    unfold wbB
    rw [decide_eq_true rfl]
    rfl
  have h2 := cnt_add (p := on) (q := on') (r := fun e => on e && wbB A D e) 20 0 0 0 (fun j _ _ => by
    rw [h1 j]
    cases on j <;> cases wbB A D j <;> simp)
  have h3 := cnt_zero (p := fun e => on e && wbB A D e) 20 0 0
  have h4 : ¬ lp (cntf (fun e => on e && wbB A D e)) 20 0 0 ≤ 0 := fun q => by
    have := h3.mp q D hr.1 (by omega)
    rw [hD, hw] at this
    exact absurd this (by decide)
  have e0 : (0 : Int) + 0 = 0 := rfl
  rw [e0] at h2
  omega
/-- who is refused -/
theorem lp_ref (hR : ∀ e f : Int, 0 ≤ e → e < 20 → 15 ≤ f → f < 20 → gt cR e f = -1) (hFo : WkF An o N) (hk : 0 ≤ k ∧ k < 2) {who : zWS} (hL : LpI cR An w n ((c, z), who) y) (h462 : y.1 462 < 20) (hx : 0 < teN k y.2.2 (-1)) : LpI cR An w n (rfd w n k ((c, z), who)) (pwA y.1 (trM y.1 o N y.2.1 k), pwB y.1 y.2.1 (trM y.1 o N y.2.1 k), lnN (pwA y.1 (trM y.1 o N y.2.1 k)) (pwB y.1 y.2.1 (trM y.1 o N y.2.1 k)) y.2.2) ∧ (0 ≤ trM y.1 o N y.2.1 k ∧ trM y.1 o N y.2.1 k < 20) ∧ NdP (pwA y.1 (trM y.1 o N y.2.1 k)) (pwB y.1 y.2.1 (trM y.1 o N y.2.1 k)) y.2.2 ∧ lp (cntf (pwB y.1 y.2.1 (trM y.1 o N y.2.1 k))) 20 0 0 < lp (cntf y.2.1) 20 0 0 := by
  obtain ⟨l1, l2, l3, l4, l5⟩ := hL
  obtain ⟨A, on, r⟩ := y
  dsimp only at l1 l2 l3 l4 l5 h462 hx ⊢
  obtain ⟨p1, p2, p3, p4, p5, p6, p7, p8, p9, p10, p11⟩ := id l1
  have h0 := p1.2.2.1
  have hst : StR An A := fun e f e0 e1 hf => by
    have := hf.2.1
    exact l5 _ (by omega)
  have hFo' : WkF A o N := by
    refine WkF_Sh4 (StR_4 hst) ?_ hFo
    exact gS_of (A := A) (fun e f e0 e1 f0 f1 => (l5 _ (by omega)).symm) (gT_S p1)
  obtain ⟨w1, w2⟩ := who_eq (k := k) p1 p2 hFo' p3 p4
  have hDo : on (trM A o N on k) = true := by
    refine tr_on (S := teS k r) p1 hFo' p4 w2 ?_
    obtain ⟨l, b1, b2, b3, b4⟩ := (l2 k hk.1 hk.2).1.2.2
    cases l with
    | nil =>
      have e0 : lyE (teS k r) (teP k r) [] 0 = 0 := rfl
      omega
    | cons t l => exact ⟨t, (b1.2 t).mp List.mem_cons_self⟩
  have eS : rfd w n k ((c, z), who) = (((lp (tof (whoS c w n k)) 20 0 (c, 0)).1, z), rff (whoS c w n k) who) := rfl
  rw [eS, w1]
  generalize trM A o N on k = D at *
  have hDr := th_rg (p4 D hDo)
  have hhi : ∀ j : Int, j < 462 → pwA A D j = A j := fun j hj => by
    unfold pwA
    rw [ups_ne _ _ (by omega), ups_ne _ _ (by omega)]
  have h462' : pwA A D 462 = A 462 + 1 := ups_at ..
  have hPw : ∀ e, pwB A on D e = (on e && !wbB (pwA A D) D e) := fun _ => rfl
  have l1' := PwI_hi hhi (by omega) l1
  have l1'' := PwI_off hR l1' hPw
  obtain ⟨a1, a2, a3, a4⟩ := rf_N (r := r) (on := pwB A on D) l1''.1 l1''.2.2.2.1
  refine ⟨⟨l1'', a3, ⟨?_, fun i i0 i1 => ?_⟩, a4 l4, fun j hj => by dsimp only; rw [hhi j hj]; exact l5 j hj⟩, hDr, rf_P l1''.1 l1''.2.2.2.1, cnt_less hPw hDo hDr⟩
  · dsimp only
    rw [h462']
    unfold rff
    rw [if_pos (by omega)]
    dsimp only
    omega
  · dsimp only at i1 ⊢
    rw [h462'] at i1
    unfold rff
    rw [if_pos (by omega)]
    unfold pwA
    rw [ups_ne _ _ (by omega)]
    dsimp only
    rw [l3.1]
    by_cases q : i = A 462
    · rw [q, ups_at, ups_at]
    · rw [ups_ne _ _ q, ups_ne _ _ (by omega)]
      exact l3.2 i i0 (by omega)
theorem tm_iff {Nn : Int → Int} (h : A 460 < Nn 20) : tmM A Nn = 0 := if_pos h
theorem lp_pow (hR : ∀ e f : Int, 0 ≤ e → e < 20 → 15 ≤ f → f < 20 → gt cR e f = -1) (hT0 : TB cR) (h50 : ∀ e, 0 ≤ gt cR e 5 + 1 ∧ gt cR e 5 ≤ 1048576) (hFo : WkF An o N) (hsp : ∀ k : Int, 0 ≤ k → k < 2 → sp k = An (460 + k)) : ∀ (m : Nat) (S : zPS) (y : zPw), LpI cR An w n S y → lp (cntf y.2.1) 20 0 0 ≤ m → y.1 462 + m ≤ 20 → RfOK w sp n m S ∧ PwP o N m y ∧ LpI cR An w n (rfl' w sp n m S) (pwS o N m y) ∧ ∀ k : Int, 0 ≤ k → k < 2 → (∀ e, (pwS o N m y).2.1 e = true → (pwS o N m y).1 (23 * e + 1) = 1 → BrC (rfl' w sp n m S).1.1 (pwS o N m y).1 (pwS o N m y).2.1 k e) ∧ teN k (pwS o N m y).2.2 (-1) ≤ An (460 + k)
  | 0, S, y, hL, hc, h4 => by
    obtain ⟨l1, l2, l3, l4, l5⟩ := id hL
    have hno : ∀ e, y.2.1 e = false := fun e => by
      refine Bool.eq_false_iff.mpr (fun q => ?_)
      have hr := th_rg (l1.2.2.2.1 e q)
      have := (cnt_zero 20 0 0).mp hc e hr.1 (by omega)
      rw [q] at this
      exact absurd this (by decide)
    have hN0 : ∀ k : Int, 0 ≤ k → k < 2 → teN k y.2.2 (-1) = 0 := fun k k0 k1 => by
      obtain ⟨l, b1, b2, b3, b4⟩ := (l2 k k0 k1).1.2.2
      cases l with
      | nil => exact b3
      | cons t l =>
        have := ((b1.2 t).mp List.mem_cons_self).2.2.1
        rw [hno] at this
        exact absurd this (by decide)
    have hsp0 : ∀ k : Int, 0 ≤ k → k < 2 → 0 ≤ An (460 + k) := fun k k0 k1 => by
      rw [← l5 _ (by omega)]
      exact (l1.1.2.2.2.1 k k0 k1).1
    refine ⟨trivial, ?_, hL, fun k k0 k1 => ⟨fun e he => ?_, by have := hN0 k k0 k1; have := hsp0 k k0 k1; show teN k y.2.2 (-1) ≤ _; omega⟩⟩
    · have n0 : y.2.2.1 20 = 0 := hN0 0 (by omega) (by omega)
      have n1 : y.2.2.1 41 = 0 := hN0 1 (by omega) (by omega)
      have s0 := hsp0 0 (by omega) (by omega)
      have s1 := hsp0 1 (by omega) (by omega)
      have a0 : y.1 460 = An (460 + 0) := l5 460 (by omega)
      have a1 : y.1 461 = An (460 + 1) := l5 461 (by omega)
      show tmM y.1 y.2.2.1 < 0
      unfold tmM
      rw [if_neg (by omega), if_neg (by omega)]
      omega
    · have he' : y.2.1 e = true := he
      rw [hno] at he'
      exact absurd he' (by decide)
  | m + 1, S, y, hL, hc, h4 => by
    obtain ⟨⟨c, z⟩, who⟩ := S
    obtain ⟨l1, l2, l3, l4, l5⟩ := id hL
    dsimp only at l1 l3
    have hg0 := l1.1.2.2.1
    obtain ⟨m1, m2, m3, m4, m5⟩ := pw_meas (z := z) (k := 0) l1 hT0 h50 (by omega)
    have e0 : (meas w n 0 (c, z)).1 = (ndS (msd w n 0 n.toNat (c, z)).1 w n (-1) 0 (msd w n 0 n.toNat (c, z)).2).1 := rfl
    have e0' : (meas w n 0 (c, z)).2 = ((msd w n 0 n.toNat (c, z)).1, (ndS (msd w n 0 n.toNat (c, z)).1 w n (-1) 0 (msd w n 0 n.toNat (c, z)).2).2) := rfl
    rw [(pw_need m3 (by omega) m4 (l2 0 (by omega) (by omega))).1] at e0
    have s0 : spc sp 0 = y.1 460 := by
      unfold spc
      rw [if_pos (by omega), hsp 0 (by omega) (by omega), l5 460 (by omega)]
      rfl
    have n0 : teN 0 y.2.2 (-1) = y.2.2.1 20 := rfl
    have hL1 : LpI cR An w n ((meas w n 0 (c, z)).2, who) y := by
      rw [e0']
      exact ⟨m3, l2, l3, l4, l5⟩
    have eP : PwP o N (m + 1) y = (¬ tmM y.1 y.2.2.1 < 0 → MG y.1 ∧ (0 ≤ trM y.1 o N y.2.1 (tmM y.1 y.2.2.1) ∧ trM y.1 o N y.2.1 (tmM y.1 y.2.2.1) < 20) ∧ (0 ≤ y.1 462 ∧ y.1 462 < 20) ∧ NdP (pwA y.1 (trM y.1 o N y.2.1 (tmM y.1 y.2.2.1))) (pwB y.1 y.2.1 (trM y.1 o N y.2.1 (tmM y.1 y.2.2.1))) y.2.2 ∧ PwP o N m (pwA y.1 (trM y.1 o N y.2.1 (tmM y.1 y.2.2.1)), pwB y.1 y.2.1 (trM y.1 o N y.2.1 (tmM y.1 y.2.2.1)), lnN (pwA y.1 (trM y.1 o N y.2.1 (tmM y.1 y.2.2.1))) (pwB y.1 y.2.1 (trM y.1 o N y.2.1 (tmM y.1 y.2.2.1))) y.2.2)) := rfl
    have eW : pwS o N (m + 1) y = if tmM y.1 y.2.2.1 < 0 then y else pwS o N m (pwA y.1 (trM y.1 o N y.2.1 (tmM y.1 y.2.2.1)), pwB y.1 y.2.1 (trM y.1 o N y.2.1 (tmM y.1 y.2.2.1)), lnN (pwA y.1 (trM y.1 o N y.2.1 (tmM y.1 y.2.2.1))) (pwB y.1 y.2.1 (trM y.1 o N y.2.1 (tmM y.1 y.2.2.1))) y.2.2) := rfl
    have eR : RfOK w sp n (m + 1) ((c, z), who) = (MsOK w n 0 n.toNat (c, z) ∧ (spc sp 0 < (meas w n 0 (c, z)).1 → TB (meas w n 0 (c, z)).2.1 ∧ RfOK w sp n m (rfd w n 0 ((meas w n 0 (c, z)).2, who))) ∧ (¬ spc sp 0 < (meas w n 0 (c, z)).1 → MsOK w n 1 n.toNat (meas w n 0 (c, z)).2 ∧ (spc sp 1 < (meas w n 1 (meas w n 0 (c, z)).2).1 → TB (meas w n 1 (meas w n 0 (c, z)).2).2.1 ∧ RfOK w sp n m (rfd w n 1 ((meas w n 1 (meas w n 0 (c, z)).2).2, who))))) := rfl
    have eL : rfl' w sp n (m + 1) ((c, z), who) = if spc sp 0 < (meas w n 0 (c, z)).1 then rfl' w sp n m (rfd w n 0 ((meas w n 0 (c, z)).2, who)) else if spc sp 1 < (meas w n 1 (meas w n 0 (c, z)).2).1 then rfl' w sp n m (rfd w n 1 ((meas w n 1 (meas w n 0 (c, z)).2).2, who)) else ((meas w n 1 (meas w n 0 (c, z)).2).2, who) := rfl
    rw [eP, eW, eR, eL]
    by_cases c0 : spc sp 0 < (meas w n 0 (c, z)).1
    · have ht : tmM y.1 y.2.2.1 = 0 := if_pos (by omega)
      have hsn := (l1.1.2.2.2.1 0 (by omega) (by omega)).1
      have h460 : (460 : Int) + 0 = 460 := rfl
      rw [h460] at hsn
      rw [ht, if_pos c0, if_neg (by omega)]
      obtain ⟨r1, r2, r3, r4⟩ := lp_ref (k := 0) (o := o) (N := N) hR hFo (by omega) hL1 (by omega) (by omega)
      obtain ⟨i1, i2, i3, i4⟩ := lp_pow hR hT0 h50 hFo hsp m _ _ r1 (by dsimp only; omega) (by
        dsimp only
        have : pwA y.1 (trM y.1 o N y.2.1 0) 462 = y.1 462 + 1 := ups_at ..
        omega)
      exact ⟨⟨m1, fun _ => ⟨m2, i1⟩, fun q => absurd c0 q⟩, fun _ => ⟨l1.1.1, r2, by omega, r3, i2⟩, i3, i4⟩
    · obtain ⟨u1, u2, u3, u4, u5⟩ := pw_meas (z := (meas w n 0 (c, z)).2.2) (k := 1) hL1.1 hT0 h50 (by omega)
      have e1 : (meas w n 1 (meas w n 0 (c, z)).2).1 = (ndS (msd w n 1 n.toNat (meas w n 0 (c, z)).2).1 w n (-1) 1 (msd w n 1 n.toNat (meas w n 0 (c, z)).2).2).1 := rfl
      have e1' : (meas w n 1 (meas w n 0 (c, z)).2).2 = ((msd w n 1 n.toNat (meas w n 0 (c, z)).2).1, (ndS (msd w n 1 n.toNat (meas w n 0 (c, z)).2).1 w n (-1) 1 (msd w n 1 n.toNat (meas w n 0 (c, z)).2).2).2) := rfl
      have u3 : PwI cR y.1 y.2.1 w n (msd w n 1 n.toNat (meas w n 0 (c, z)).2).1 := u3
      have u4 : ∀ e, y.2.1 e = true → y.1 (23 * e + 1) = 1 → BrC (msd w n 1 n.toNat (meas w n 0 (c, z)).2).1 y.1 y.2.1 1 e := u4
      rw [(pw_need u3 (by omega) u4 (l2 1 (by omega) (by omega))).1] at e1
      have s1 : spc sp 1 = y.1 461 := by
        unfold spc
        rw [if_pos (by omega), hsp 1 (by omega) (by omega), l5 461 (by omega)]
        rfl
      have n1 : teN 1 y.2.2 (-1) = y.2.2.1 41 := rfl
      have hL2 : LpI cR An w n ((meas w n 1 (meas w n 0 (c, z)).2).2, who) y := by
        rw [e1']
        exact ⟨u3, l2, l3, l4, l5⟩
      by_cases c1 : spc sp 1 < (meas w n 1 (meas w n 0 (c, z)).2).1
      · have ht : tmM y.1 y.2.2.1 = 1 := by
          unfold tmM
          rw [if_neg (by omega), if_pos (by omega)]
        have hsn := (l1.1.2.2.2.1 1 (by omega) (by omega)).1
        have h461 : (460 : Int) + 1 = 461 := rfl
        rw [h461] at hsn
        rw [ht, if_neg c0, if_pos c1, if_neg (by omega)]
        obtain ⟨r1, r2, r3, r4⟩ := lp_ref (k := 1) (o := o) (N := N) hR hFo (by omega) hL2 (by omega) (by omega)
        obtain ⟨i1, i2, i3, i4⟩ := lp_pow hR hT0 h50 hFo hsp m _ _ r1 (by dsimp only; omega) (by
          dsimp only
          have : pwA y.1 (trM y.1 o N y.2.1 1) 462 = y.1 462 + 1 := ups_at ..
          omega)
        exact ⟨⟨m1, fun q => absurd q c0, fun _ => ⟨u1, fun _ => ⟨u2, i1⟩⟩⟩, fun _ => ⟨l1.1.1, r2, by omega, r3, i2⟩, i3, i4⟩
      · have ht : tmM y.1 y.2.2.1 = -1 := by
          unfold tmM
          rw [if_neg (by omega), if_neg (by omega)]
        rw [ht, if_neg c0, if_neg c1, if_pos (by omega)]
        refine ⟨⟨m1, fun q => absurd q c0, fun _ => ⟨u1, fun q => absurd q c1⟩⟩, fun q => absurd (by omega) q, hL2, fun k k0 k1 => ?_⟩
        rcases (show k = 0 ∨ k = 1 by omega) with rfl | rfl
        · refine ⟨fun e he hb => ?_, ?_⟩
          · rw [e1']
            exact u5 0 (by omega) (by omega) (by omega) e (m4 e he hb)
          · have := l5 460 (by omega)
            show _ ≤ An 460
            omega
        · refine ⟨fun e he hb => ?_, ?_⟩
          · rw [e1']
            exact u4 e he hb
          · have := l5 461 (by omega)
            show _ ≤ An 461
            omega
end FD1
