/-! THE STEPS aperture and space -/
section BB
variable {im X Y : zM} {c c' A B : Int → Int} {e f a b p x d sl wh nu un ty k kd dv m : Int}
theorem apA_v (A : Int → Int) (d kd x j : Int) : apA A d kd x j = if j = 23 * d + 5 then A (23 * d + 5) + 1 else if j = 23 * d + (9 + A (23 * d + 5)) then zshl 1 x else if j = 23 * d + (6 + A (23 * d + 5)) then kd else A j := rfl
theorem ap_Sh4 (hM : MG A) (hd : 0 ≤ d ∧ d < 20) : Sh4 A (apA A d kd x) := fun e f e0 e1 f0 f1 => by
  have h5 := (hM d hd.1 hd.2).2.2.2.2.1
  rw [apA_v, if_neg (by omega), if_neg (by omega), if_neg (by omega)]
theorem ap_good (hg : gGd A) (hx : 0 ≤ x ∧ x ≤ 8) (hk : 0 ≤ kd ∧ kd ≤ 1) (he : epM A d) (ho : ¬ onM A d) (hm : A (23 * d + 5) ≠ 3) : gGd (apA A d kd x) := by
  obtain ⟨⟨g1, g2, g3, g4, g5, g6, g7, g8, g9⟩, gO'⟩ := id hg
  have hd := th_rg he.1
  have h5 := (g1 d hd.1 hd.2).2.2.2.2.1
  obtain ⟨n, n1, n2, n3⟩ := zshl_pow hx
  have hp := pow_le8 n n1
  have h4 := ap_Sh4 (kd := kd) (x := x) g1 hd
  have hrw : ∀ e, e ≠ d → Rw A (apA A d kd x) e := fun e q => ap_rw g1 hd hm q
  have hM : MG (apA A d kd x) := MG_frame g1 (fun e e0 e1 => by
    by_cases q : e = d
    · subst q
      right
      obtain ⟨m1, m2, m3, m4, m5, m6, m7, m8, m9, m10, m11⟩ := g1 e e0 e1
      unfold MGr
      rw [apA_v, apA_v, apA_v, apA_v, apA_v, apA_v, apA_v, apA_v, apA_v, if_neg (by omega), if_neg (by omega), if_neg (by omega), if_neg (by omega), if_neg (by omega), if_neg (by omega), if_neg (by omega), if_neg (by omega), if_neg (by omega), if_neg (by omega), if_neg (by omega), if_neg (by omega), if_pos rfl, if_neg (by omega), if_neg (by omega), if_neg (by omega), if_neg (by omega), if_neg (by omega), if_neg (by omega), if_neg (by omega), if_neg (by omega), if_neg (by omega), if_neg (by omega), if_neg (by omega), if_neg (by omega)]
      refine ⟨m1, m2, m3, m4, by omega, fun a a0 a1 => ?_, m7, m8, m9, m10, fun k k0 k1 => ?_⟩
      · have h6 := m6 a a0 a1
        rw [apA_v, apA_v, apA_v]
        refine ⟨?_, ?_, ?_⟩ <;> (repeat' split) <;> omega
      · have h6 := m11 k k0 k1
        rw [apA_v, apA_v]
        refine ⟨?_, ?_⟩ <;> (repeat' split) <;> omega
    · exact Or.inl (hrw e q))
  have far : ∀ j : Int, 460 ≤ j → apA A d kd x j = A j := fun j hj => ap_far g1 hd hm (by omega)
  refine ⟨gT_of h4 hg.1 hM (by rw [far _ (by omega)]; exact g3) (fun k k0 k1 => by rw [far _ (by omega)]; exact g4 k k0 k1) (fun e q => ?_) (fun e a q a0 a1 => ?_) (fun e k q k0 k1 => ?_), gO_less gO' g1 hM (fun k k0 k1 => far _ (by omega)) (fun e q => ?_) (fun e q => ?_) (fun e q q' => ?_)⟩
  · have hq := (Sh4_br h4).mp q
    have hne : e ≠ d := fun r => by
      have := hq.2
      have := he.2
      rw [r] at hq
      omega
    rw [hrw e hne 5 (by omega) (by omega)]
    exact g7 e hq
  · have hq := (Sh4_th h4).mp q
    by_cases r : e = d
    · subst r
      rw [apA_v, if_pos rfl] at a1
      rw [apA_v, if_neg (by omega)]
      by_cases s : a = A (23 * e + 5)
      · rw [if_pos (by omega)]
        exact ⟨n, n1, n3⟩
      · rw [if_neg (by omega), if_neg (by omega)]
        exact g8 e a hq a0 (by omega)
    · have := (g1 e (th_rg hq).1 (th_rg hq).2).2.2.2.2.1
      rw [hrw e r 5 (by omega) (by omega)] at a1
      rw [hrw e r (9 + a) (by omega) (by omega)]
      exact g8 e a hq a0 a1
  · have hq := (Sh4_ep h4).mp q
    rw [apA_v, if_neg (by have := th_rg hq.1; omega), if_neg (by have := th_rg hq.1; omega), if_neg (by have := th_rg hq.1; omega)]
    exact g9 e k hq k0 k1
  · have hq := (Sh4_th h4).mp q.1
    have hne : e ≠ d := fun r => ho (by
      subst r
      refine ⟨hq, ?_⟩
      have := q.2
      rw [apA_v, if_neg (by omega), if_neg (by omega), if_neg (by omega)] at this
      exact this)
    exact ⟨⟨hq, by rw [← hrw e hne 4 (by omega) (by omega)]; exact q.2⟩, hrw e hne⟩
  · have hon : ∀ e, onM (apA A d kd x) e ↔ onM A e := fun e => by
      have e4 : ∀ e, 0 ≤ e → e ≤ 19 → apA A d kd x (23 * e + 4) = A (23 * e + 4) := fun e e0 e1 => by rw [apA_v, if_neg (by omega), if_neg (by omega), if_neg (by omega)]
      constructor
      · exact fun s => ⟨(Sh4_th h4).mp s.1, by rw [← e4 e s.1.1 s.1.2.1]; exact s.2⟩
      · exact fun s => ⟨(Sh4_th h4).mpr s.1, by rw [e4 e s.1.1 s.1.2.1]; exact s.2⟩
    have hq := (hon e).mp q
    rw [h4 e 2 hq.1.1 (th_rg hq.1).2 (by omega) (by omega)]
    exact (gO'.1 e hq).imp id (fun r => (hon _).mpr r)
  · have hq := (Sh4_th h4).mp q
    have hr := th_rg hq
    have e4 : apA A d kd x (23 * e + 4) = A (23 * e + 4) := by rw [apA_v, if_neg (by omega), if_neg (by omega), if_neg (by omega)]
    have hn : ¬ onM A e := fun s => q' ⟨q, by rw [e4]; exact s.2⟩
    obtain ⟨o1, o2, o3, o4⟩ := gO'.2.1 e hq hn
    have h5e := (g1 e hr.1 hr.2).2.2.2.2.1
    refine ⟨?_, ?_, fun a a0 a1 => ?_, fun k k0 k1 => ⟨?_, ?_⟩⟩
    · rw [apA_v, if_neg (by omega), if_neg (by omega), if_neg (by omega)]; exact o1
    · rw [apA_v, if_neg (by omega), if_neg (by omega), if_neg (by omega)]; exact o2
    · rw [apA_v, if_neg (by omega), if_neg (by omega), if_neg (by omega)]; exact o3 a a0 a1
    · rw [apA_v, if_neg (by omega), if_neg (by omega), if_neg (by omega)]; exact (o4 k k0 k1).1
    · rw [apA_v, if_neg (by omega), if_neg (by omega), if_neg (by omega)]; exact (o4 k k0 k1).2
/-- the class's cells after an aperture was added -/
def apC (c : Int → Int) (d m kd z : Int) : Int → Int := stc (stc (stc (stc c d (9 + m) kd) d (12 + m) z) d (15 + m) (-1)) d 6 (m + 1)
theorem gt_apC {z : Int} (hd : 0 ≤ d ∧ d < 20) (hm : 0 ≤ m ∧ m < 3) : gt (apC c d m kd z) e f = if e = d then (if f = 6 then m + 1 else if f = 15 + m then -1 else if f = 12 + m then z else if f = 9 + m then kd else gt c e f) else gt c e f := by
  unfold apC
  rw [gt_stc, gt_stc, gt_stc, gt_stc]
  by_cases q : e = d
  · rw [if_pos q]
    by_cases f1 : f = 6
    · rw [if_pos f1, if_pos ⟨q, f1, by omega, by omega, by omega, by omega⟩]
    · rw [if_neg f1, if_neg (fun r => f1 r.2.1)]
      by_cases f2 : f = 15 + m
      · rw [if_pos f2, if_pos ⟨q, f2, by omega, by omega, by omega, by omega⟩]
      · rw [if_neg f2, if_neg (fun r => f2 r.2.1)]
        by_cases f3 : f = 12 + m
        · rw [if_pos f3, if_pos ⟨q, f3, by omega, by omega, by omega, by omega⟩]
        · rw [if_neg f3, if_neg (fun r => f3 r.2.1)]
          by_cases f4 : f = 9 + m
          · rw [if_pos f4, if_pos ⟨q, f4, by omega, by omega, by omega, by omega⟩]
          · rw [if_neg f4, if_neg (fun r => f4 r.2.1)]
  · rw [if_neg q, if_neg (fun r => q r.1), if_neg (fun r => q r.1), if_neg (fun r => q r.1), if_neg (fun r => q r.1)]
theorem ap_GdT {T : zM} (h : GdT gGd T 120 A) (hx : 0 ≤ x ∧ x ≤ 8) (hk : 0 ≤ kd ∧ kd ≤ 1) (he : epM A d) (ho : ¬ onM A d) (hm : A (23 * d + 5) ≠ 3) : GdT gGd (setc T 121 (apC (T 121) d (A (23 * d + 5)) kd (zshl 1 x))) 120 (apA A d kd x) := by
  obtain ⟨⟨t1, t2, t3, t4, t5, t6⟩, hg, hC⟩ := h
  have t1 : SimC (T 121) A := t1
  have hC : Cls (T 121) := hC
  have hd := th_rg he.1
  have hM := hg.1.1
  have h5 := (hM d hd.1 hd.2).2.2.2.2.1
  obtain ⟨n, n1, n2, n3⟩ := zshl_pow hx
  have hp := pow_le8 n n1
  have far : ∀ j : Int, 460 ≤ j → apA A d kd x j = A j := fun j hj => ap_far hM hd hm (by omega)
  obtain ⟨w1, w2⟩ := wk_Sh4 (ap_Sh4 (kd := kd) (x := x) hM hd) (gT_S hg.1)
  have hgt := fun e f => gt_apC (c := T 121) (kd := kd) (z := zshl 1 x) (e := e) (f := f) hd (show 0 ≤ A (23 * d + 5) ∧ A (23 * d + 5) < 3 by omega)
  refine ⟨⟨?_, ?_, ?_, ?_, ?_, ?_⟩, ap_good hg hx hk he ho hm, ?_⟩
  · rw [setc_at]
    refine SimC_frame t1 hM (fun e e0 e1 => ?_)
    by_cases q : e = d
    · subst q
      right
      obtain ⟨q1, q2, q3, q4⟩ := t1 e e0 e1
      obtain ⟨d1, d2, d3, d4, d5, d6, d7, d8, d9⟩ := q3 he.1.2.2
      unfold SmR SimD
      simp only [hgt, if_true]
      have r0 : ∀ f : Int, 0 ≤ f → f < 5 → apA A e kd x (23 * e + f) = A (23 * e + f) := fun f f0 f1 => by rw [apA_v, if_neg (by omega), if_neg (by omega), if_neg (by omega)]
      have r1 : ∀ f : Int, 12 ≤ f → f < 23 → apA A e kd x (23 * e + f) = A (23 * e + f) := fun f f0 f1 => by rw [apA_v, if_neg (by omega), if_neg (by omega), if_neg (by omega)]
      have r5 : apA A e kd x (23 * e + 5) = A (23 * e + 5) + 1 := by rw [apA_v, if_pos rfl]
      rw [r0 0 (by omega) (by omega), r0 1 (by omega) (by omega), r0 2 (by omega) (by omega), r0 3 (by omega) (by omega), r0 4 (by omega) (by omega), r1 15 (by omega) (by omega), r1 16 (by omega) (by omega), r5]
      have he1 := he.2
      refine ⟨q1, q2, fun _ => ⟨?_, ?_, ?_, ?_, ?_, ?_, ?_, fun a a0 a1 => ?_, fun hb => by omega⟩, fun r => absurd he.1.2.2 r⟩
      · rw [if_neg (by omega), if_neg (by omega), if_neg (by omega), if_neg (by omega)]; exact d1
      · rw [if_neg (by omega), if_neg (by omega), if_neg (by omega), if_neg (by omega)]; exact d2
      · rw [if_neg (by omega), if_neg (by omega), if_neg (by omega), if_neg (by omega)]; exact d3
      · rw [if_neg (by omega), if_neg (by omega), if_neg (by omega), if_neg (by omega)]; exact d4
      · trivial
      · rw [if_neg (by omega), if_neg (by omega), if_neg (by omega), if_neg (by omega)]; exact d6
      · rw [if_neg (by omega), if_neg (by omega), if_neg (by omega), if_neg (by omega)]; exact d7
      · rw [r1 (12 + a) (by omega) (by omega), apA_v, apA_v]
        by_cases s : a = A (23 * e + 5)
        · subst s
          have ob := (hg.2.2.1 e he.1 ho).2.2.1 _ h5.1 (by omega)
          rw [ob]
          refine ⟨?_, ?_, ?_⟩ <;> (repeat' split) <;> omega
        · have := d8 a a0 (by omega)
          refine ⟨?_, ?_, ?_⟩ <;> (repeat' split) <;> omega
    · left
      exact ⟨ap_rw hM hd hm q, fun f => by rw [hgt, if_neg q]⟩
  · rw [setc_ne _ _ (by omega)]
    intro k k0 k1
    rw [far _ (by omega)]
    exact t2 k k0 k1
  · rw [setc_ne _ _ (by omega), far _ (by omega)]
    exact t3
  · rw [setc_ne _ _ (by omega), far _ (by omega)]
    intro i i0 i1
    rw [far _ (by omega)]
    exact t4 i i0 i1
  · rw [setc_ne _ _ (by omega), w1]
    exact t5
  · rw [setc_ne _ _ (by omega), w1]
    intro i i0 i1
    rw [w2 i i0 i1]
    exact t6 i i0 i1
  · rw [setc_at]
    refine Cls_frame hC (fun e e0 e1 => ?_)
    by_cases q : e = d
    · subst q
      right
      obtain ⟨c1, c2, c3, c4, c5, c6, c7⟩ := hC e e0 e1
      have h6 := (t1 e e0 e1).2.2.1 he.1.2.2
      have h60 := h6.1
      have h66 := h6.2.2.2.2.1
      have hb := (t1 e e0 e1).1
      unfold Clr
      simp only [hgt, if_true]
      refine ⟨by omega, ?_, ?_, ?_, ?_, fun a a0 a1 => ?_, fun k k0 k1 => ?_⟩
      · rw [if_neg (by omega), if_neg (by omega), if_neg (by omega), if_neg (by omega)]; exact c2
      · rw [if_neg (by omega), if_neg (by omega), if_neg (by omega), if_neg (by omega)]; exact c3
      · rw [if_neg (by omega), if_neg (by omega), if_neg (by omega), if_neg (by omega)]; exact c4
      · rw [if_neg (by omega), if_neg (by omega), if_neg (by omega), if_neg (by omega)]
        intro r
        have : gt (T 121) e 0 = 1 + A (23 * e + 1) := h60
        omega
      · have h66' : gt (T 121) e 6 = A (23 * e + 5) := h66
        have := c6 a a0 a1
        refine ⟨⟨?_, ?_⟩, ⟨?_, ?_⟩, ?_⟩ <;> (repeat' split) <;> omega
      · rw [if_neg (by omega), if_neg (by omega), if_neg (by omega), if_neg (by omega), if_neg (by omega), if_neg (by omega), if_neg (by omega), if_neg (by omega)]
        have h7 := c7 k k0 k1
        refine ⟨h7.1, h7.2.1, fun r1 r2 => h7.2.2 ?_ ?_⟩
        · rw [if_neg (by omega), if_neg (by omega), if_neg (by omega), if_neg (by omega)] at r1
          exact r1
        · rw [if_neg (by omega), if_neg (by omega), if_neg (by omega), if_neg (by omega)] at r2
          exact r2
    · exact Or.inl (fun f => by rw [hgt, if_neg q])
theorem sp_aperture : Sp3 99 (Inv gGd) 88 166 := by
  intro im hI dv _ kd _ x _
  have hh := hI.1.1
  have hm := hI.1.2.1
  have hT := trl_GdT hI
  have hg := hT.2.1
  have hs : SimC (trl im 121) (im 172) := hT.1.1
  have hC : Cls (trl im 121) := hT.2.2
  refine (c_aperture (d := 97) hh).mpr ?_
  by_cases c1 : apM (im 172) dv kd x
  · have hd := th_rg c1.1.1
    have h5 := (hg.1.1 dv hd.1 hd.2).2.2.2.2.1
    have h66 : gt (trl im 121) dv 6 = im 172 (23 * dv + 5) := (sc_d hs c1.1.1).2.2.2.2.1
    have ea : apD (trl im 121) dv kd x = im 172 (23 * dv + 5) := by
      unfold apD
      rw [if_pos ⟨(sc_ep hs).mpr c1.1, fun q => c1.2.1 ((sc_on hs).mp q), by have := c1.2.2.2.1; omega, c1.2.2.2.2, by omega, by have := c1.2.2.1; omega⟩]
      exact h66
    rw [ea, if_neg (by omega)]
    have hN := ap_GdT hT c1.2.2.2.2 c1.2.2.2.1 c1.1 c1.2.1 c1.2.2.1
    have hX : ∀ p : Nat, p < 120 ∨ 170 < p → setc (trl im) 121 (apC (trl im 121) dv (im 172 (23 * dv + 5)) kd (zshl 1 x)) p = im p := fun p hp => by
      rw [setc_ne _ _ (by omega), trl_ne (by omega)]
    have h163 : setc (trl im) 121 (apC (trl im 121) dv (im 172 (23 * dv + 5)) kd (zshl 1 x)) 163 = im 163 := by rw [setc_ne _ _ (by omega), trl_ne (by omega)]
    have hK := act_keep hI hX (by rw [h163]; exact hI.2.2.1) hN
    have e172 := kp172 hI hX
    have eHM := kpHM hI hX
    show ∃ v : Int, _ = some (Sum.inl v) ∧ CallP 99 166 _ (kp (setc (trl im) 121 (apC (trl im 121) dv (im 172 (23 * dv + 5)) kd (zshl 1 x)))) _
    generalize kp (setc (trl im) 121 (apC (trl im 121) dv (im 172 (23 * dv + 5)) kd (zshl 1 x))) = Y at hK e172 eHM ⊢
    refine ⟨_, rfl, (c_apertureM (d := 96) eHM ?_).mpr ?_⟩
    · rw [e172]
      exact fun _ => h5
    · rw [e172, if_pos c1]
      exact ⟨rfl, hK⟩
  · have ea : apD (trl im 121) dv kd x = -1 := by
      unfold apD
      refine if_neg (fun q => c1 ?_)
      have h1 := (sc_ep hs).mp q.1
      have h66 : gt (trl im 121) dv 6 = im 172 (23 * dv + 5) := (sc_d hs h1.1).2.2.2.2.1
      exact ⟨h1, fun r => q.2.1 ((sc_on hs).mpr r), by have := q.2.2.2.2; omega, by have := q.2.2.1; omega, q.2.2.2.1⟩
    rw [ea, if_pos rfl]
    rintro r i ⟨rfl, rfl⟩
    refine ⟨_, rfl, (c_apertureM (d := 96) (trlHM hI) ?_).mpr ?_⟩
    · rw [trl172]
      exact fun q => (hg.1.1 dv (th_rg q.1).1 (th_rg q.1).2).2.2.2.2.1
    · rw [trl172, if_neg c1]
      exact ⟨rfl, trl_stay hI⟩
end BB
