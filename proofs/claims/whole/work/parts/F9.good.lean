/-! POWER-UP: what comes out is good -/
section FJ1
variable {X Y : zM} {c c' A B C Ao S D w cR : Int → Int} {e f a b k t x v n N d i q bu dv lv : Int} {on on' : Int → Bool} {r : zLy} {m : Nat} {z : zSS} {D' : Int}
theorem ao_hi (h : LdG A Ao on r) (hI : LdI A Ao on r (fun _ => True) B) {j : Int} (hj : 460 ≤ j) : B j = A j := by
  obtain ⟨-, g2⟩ := on_row (on := on) 20 0 A (Int.le_refl _) (by omega)
  rw [hI.2.2 j hj, h.2.2.2.2.2]
  exact g2 j hj
/-- numbers of one that is ON -/
theorem fin_on (h : LdG A Ao on r) (hI : LdI A Ao on r (fun _ => True) B) (hx : on x = true) : (∀ f : Int, 0 ≤ f → f < 23 → f ≠ 4 → (f < 12 ∨ (14 < f ∧ f < 19)) → B (23 * x + f) = A (23 * x + f)) ∧ (∀ a : Int, 0 ≤ a → a < A (23 * x + 5) → B (23 * x + (12 + a)) = liP A (teD (A (23 * x + (6 + a))) r) (3 * x + a)) ∧ (∀ a : Int, A (23 * x + 5) ≤ a → 0 ≤ a → a < 3 → B (23 * x + (12 + a)) = -1) ∧ (A (23 * x + 1) = 1 → ∀ k : Int, 0 ≤ k → k < 2 → B (23 * x + (19 + k)) = (if teS k r (60 + x) = 0 then -1 else liP A (teD k r) (60 + x)) ∧ B (23 * x + (21 + k)) = teS k r (60 + x)) ∧ (A (23 * x + 1) ≠ 1 → ∀ k : Int, 0 ≤ k → k < 2 → B (23 * x + (19 + k)) = -1 ∧ B (23 * x + (21 + k)) = 0) := by
  obtain ⟨v1, v2, v3⟩ := fn_vals h hx
  have hth := h.2.1 x hx
  have hr := th_rg hth
  have h5 := MG_many h.1.1 hr
  have hB : ∀ f : Int, 0 ≤ f → f < 23 → B (23 * x + f) = fnV A Ao r x f := fun f f0 f1 => hI.1 x f hx trivial f0 f1
  have hA : ∀ f : Int, 0 ≤ f → f < 23 → f ≠ 4 → Ao (23 * x + f) = A (23 * x + f) := fun f f0 f1 f4 => by rw [ao_row h hr.1 hr.2 f0 f1, if_pos hx, if_neg f4]
  obtain ⟨c1, c2⟩ := h.2.2.2.2.1 x hth
  refine ⟨fun f f0 f1 f4 hf => ?_, fun a a0 a1 => ?_, fun a a0 a1 a2 => ?_, fun hb k k0 k1 => ?_, fun hb k k0 k1 => ⟨?_, ?_⟩⟩
  · rw [hB f f0 f1, v3 f (fun a a0 a1 => by omega) (fun _ => by omega), hA f f0 f1 f4]
  · rw [hB _ (by omega) (by omega), v1 a a0 a1]
  · rw [hB _ (by omega) (by omega), v3 _ (fun a' a0' a1' => by omega) (fun _ => by omega), hA _ (by omega) (by omega) (by omega)]
    exact c1 a a1 a2
  · rw [hB _ (by omega) (by omega), hB _ (by omega) (by omega)]
    exact v2 hb k k0 k1
  · rw [hB _ (by omega) (by omega), v3 _ (fun a' a0' a1' => by omega) (fun q => absurd q hb), hA _ (by omega) (by omega) (by omega)]
    exact (c2 k k0 k1).1
  · rw [hB _ (by omega) (by omega), v3 _ (fun a' a0' a1' => by omega) (fun q => absurd q hb), hA _ (by omega) (by omega) (by omega)]
    exact (c2 k k0 k1).2
/-- and of one that isn't -/
theorem fin_off (h : LdG A Ao on r) (hI : LdI A Ao on r (fun _ => True) B) (ht : thM A x) (hx : on x = false) : ∀ f : Int, 0 ≤ f → f < 23 → B (23 * x + f) = ofv f (A (23 * x + f)) := fun f f0 f1 => by
  have hr := th_rg ht
  have hn : ¬ on x = true := by rw [hx]; decide
  rw [hI.2.1 x f hr.1 hr.2 f0 f1 (fun s => hn s.1), ao_row h hr.1 hr.2 f0 f1, if_neg hn, if_pos ht]
/-- things ON of the numbers that come out -/
theorem it_fin (h : LdG A Ao on r) (hI : LdI A Ao on r (fun _ => True) B) (hk : 0 ≤ k ∧ k < 2) (t0 : 0 ≤ t) (t1 : t < 80) (hi : itM B t k) : itP A on (teS k r) k (A (23 * deM t + 2)) t ∧ bgT B t k = liP A (teD k r) t ∧ wdT B t k = teS k r t := by
  have ho := (LdI_on h hI).mp hi.1
  have hth := h.2.1 _ ho
  have hr := th_rg hth
  obtain ⟨f1, f2, f3, f4, f5⟩ := fin_on h hI ho
  obtain ⟨-, hi2⟩ := hi
  have h5 := MG_many h.1.1 hr
  by_cases h6 : t < 60
  · have hd : deM t = t / 3 := if_pos h6
    rw [if_pos h6, f1 5 (by omega) (by omega) (by omega) (by omega), f1 (6 + t % 3) (by omega) (by omega) (by omega) (by omega)] at hi2
    have hit : itP A on (teS k r) k (A (23 * deM t + 2)) t := ⟨t0, t1, ho, rfl, by rw [if_pos h6]; exact hi2⟩
    refine ⟨hit, ?_, ?_⟩
    · have e2 := f2 (t % 3) (by omega) hi2.1
      rw [hi2.2] at e2
      unfold bgT bsT
      rw [if_pos h6]
      rw [hd] at e2
      rw [e2, show 3 * (t / 3) + t % 3 = t by omega]
    · have ha := (h.2.2.2.1 k hk.1 hk.2).1
      have hap : ApSp A on k (teS k r) (teP k r) (A (23 * deM t + 2)) := by
        rcases it_bus h.2.2.1 hit with q | ⟨q, q'⟩
        · rw [q]
          exact ha.1.2.1
        · exact (ha.1.1 _ q q').1
      have e9 := f1 (9 + t % 3) (by omega) (by omega) (by omega) (by omega)
      rw [(hap t hit h6).1]
      unfold wdT szT
      rw [if_pos h6]
      rw [hd] at e9
      exact e9
  · have hd : deM t = t - 60 := if_neg h6
    rw [if_neg h6] at hi2
    have hb : A (23 * deM t + 1) = 1 := Decidable.byContradiction fun q => by
      have := (f5 q k hk.1 hk.2).2
      omega
    obtain ⟨g1, g2⟩ := f4 hb k hk.1 hk.2
    have et : 60 + deM t = t := by omega
    rw [et] at g1 g2
    have hS : teS k r t ≠ 0 := by omega
    refine ⟨⟨t0, t1, ho, rfl, by rw [if_neg h6]; exact ⟨hb, hS⟩⟩, ?_, ?_⟩
    · unfold bgT
      rw [if_neg h6, ← hd, g1, if_neg hS]
    · unfold wdT
      rw [if_neg h6, ← hd, g2]
theorem fin_good (h : LdG A Ao on r) (hI : LdI A Ao on r (fun _ => True) B) : gGd B := by
  have hMB := LdI_MG h hI
  have hst := LdI_StR h hI
  have h4 := StR_4 hst
  have hth : ∀ e, thM B e ↔ thM A e := fun e => Sh4_th h4
  have hon : ∀ e, onM B e ↔ on e = true := fun e => LdI_on h hI
  have hoffc : ∀ e, thM B e → ¬ onM B e → thM A e ∧ on e = false := fun e he hn => ⟨(hth e).mp he, Bool.eq_false_iff.mpr (fun q => hn ((hon e).mpr q))⟩
  have h2 : ∀ e, on e = true → B (23 * e + 2) = A (23 * e + 2) ∧ B (23 * e + 1) = A (23 * e + 1) ∧ B (23 * e + 17) = A (23 * e + 17) ∧ B (23 * e + 18) = A (23 * e + 18) := fun e he => by
    obtain ⟨f1, -⟩ := fin_on h hI he
    exact ⟨f1 2 (by omega) (by omega) (by omega) (by omega), f1 1 (by omega) (by omega) (by omega) (by omega), f1 17 (by omega) (by omega) (by omega) (by omega), f1 18 (by omega) (by omega) (by omega) (by omega)⟩
  have hbu : ∀ e, on e = true → (A (23 * e + 2) = -1 ∧ buM B e = 20) ∨ ((on (A (23 * e + 2)) = true ∧ A (23 * A (23 * e + 2) + 1) = 1) ∧ buM B e = A (23 * e + 2) ∧ A (23 * e + 2) ≠ 20) := fun e he => by
    obtain ⟨e2, -⟩ := h2 e he
    rcases h.2.2.1.1 e he with q | ⟨q, q'⟩
    · refine Or.inl ⟨q, ?_⟩
      unfold buM
      rw [if_pos (by omega)]
    · have hr := th_rg (h.2.1 _ q)
      refine Or.inr ⟨⟨q, q'⟩, ?_, by omega⟩
      unfold buM
      rw [if_neg (by omega), e2]
  refine ⟨gT_st hst h.1 hMB (by rw [ao_hi h hI (by omega)]; exact h.1.2.2.1) (fun k k0 k1 => ao_hi h hI (by omega)) (fun e k he k0 k1 => ?_), fun e he => ?_, fun e he hn => ?_, fun e he hb => ?_, fun e e' hne he hb he' hb' hp => ?_, fun t k t0 t1 k0 k1 hi => ?_, fun t o k t0 t1 o0 o1 hne k0 k1 hi hj hp => ?_⟩
  · have hq := (Sh4_ep h4).mp he
    have hb : A (23 * e + 1) ≠ 1 := by have := hq.2; omega
    by_cases c1 : on e = true
    · exact ((fin_on h hI c1).2.2.2.2 hb k k0 k1).2
    · rw [fin_off h hI hq.1 (Bool.eq_false_iff.mpr c1) _ (by omega) (by omega)]
      unfold ofv
      rw [if_pos (by omega)]
  · have ho := (hon e).mp he
    rw [(h2 e ho).1]
    exact (h.2.2.1.1 e ho).imp id (fun q => (hon _).mpr q.1)
  · obtain ⟨ht, ho⟩ := hoffc e he hn
    have hv := fin_off h hI ht ho
    refine ⟨by rw [hv 17 (by omega) (by omega)]; rfl, by rw [hv 18 (by omega) (by omega)]; rfl, fun a a0 a1 => ?_, fun k k0 k1 => ⟨?_, ?_⟩⟩
    · rw [hv _ (by omega) (by omega)]
      unfold ofv
      rw [if_neg (by omega), if_pos (by omega)]
    · rw [hv _ (by omega) (by omega)]
      unfold ofv
      rw [if_neg (by omega), if_pos (by omega)]
    · rw [hv _ (by omega) (by omega)]
      unfold ofv
      rw [if_pos (by omega)]
  · have ho := (hon e).mp he
    obtain ⟨e2, e1, e17, e18⟩ := h2 e ho
    rw [e1] at hb
    rw [e17, e18]
    obtain ⟨u1, u2⟩ := h.2.2.1.2.1 e ho hb
    refine ⟨u1, ?_⟩
    unfold fsM lsM
    rcases hbu e ho with ⟨q, q1⟩ | ⟨⟨q, q'⟩, q1, q2⟩
    · rw [if_pos q1, if_pos q1]
      omega
    · have := th_rg (h.2.1 _ q)
      rw [q1, if_neg q2, if_neg q2, (h2 _ q).2.2.1, (h2 _ q).2.2.2]
      exact u2 (by omega)
  · have ho := (hon e).mp he
    have ho' := (hon e').mp he'
    obtain ⟨e2, e1, e17, e18⟩ := h2 e ho
    obtain ⟨g2, g1, g17, g18⟩ := h2 e' ho'
    rw [e1] at hb
    rw [g1] at hb'
    rw [e2, g2] at hp
    rw [e17, e18, g17, g18]
    exact h.2.2.1.2.2 e e' hne ho hb ho' hb' hp
  · obtain ⟨i1, i2, i3⟩ := it_fin h hI ⟨k0, k1⟩ t0 t1 hi
    have hb := ld_bd h ⟨k0, k1⟩ i1
    rw [i2, i3]
    obtain ⟨u1, u2⟩ := ps_bd' h.1 h.2.1 h.2.2.1 (h.2.2.2.1 k k0 k1).1 (h.2.2.2.1 k k0 k1).2 i1
    unfold wiM beM
    rcases hbu _ i1.2.2.1 with ⟨q, q1⟩ | ⟨⟨q, q'⟩, q1, q2⟩
    · rw [if_pos q1, if_pos q1, ao_hi h hI (by omega)]
      omega
    · have hr := th_rg (h.2.1 _ q)
      rw [q1, if_neg q2, if_neg q2]
      obtain ⟨v1, v2, v3, v4⟩ := u2 (by omega)
      obtain ⟨w1, w2⟩ := (fin_on h hI q).2.2.2.1 q' k k0 k1
      have hd := de_br hr.1
      have hS : teS k r (60 + A (23 * deM t + 2)) ≠ 0 := by
        have := v1.2.2.2.2
        rw [if_neg hd.2.2] at this
        exact this.2
      have hb2 := ld_bd h ⟨k0, k1⟩ v1
      rw [w1, w2, if_neg hS]
      omega
  · obtain ⟨i1, i2, i3⟩ := it_fin h hI ⟨k0, k1⟩ t0 t1 hi
    obtain ⟨j1, j2, j3⟩ := it_fin h hI ⟨k0, k1⟩ o0 o1 hj
    rw [(h2 _ i1.2.2.1).1, (h2 _ j1.2.2.1).1] at hp
    rw [← hp] at j1
    rw [i2, i3, j2, j3]
    exact ps_ap h.1 h.2.1 h.2.2.1 (h.2.2.2.1 k k0 k1).1 i1 j1 hne
/-- cells of the class that are nothing but themselves -/
def CeX (c : Int → Int) : Prop := ∀ e : Int, 0 ≤ e → e < 20 → (gt c e 3 = 0 ∨ gt c e 3 = 1) ∧ (¬ (gt c e 0 = 2 ∧ gt c e 3 = 1) → ∀ k : Int, 0 ≤ k → k < 2 → gt c e (20 + k) = 0)
theorem ce_msd (hk : 0 ≤ k ∧ k < 2) : ∀ (m : Nat) (y : (Int → Int) × zSS), CeX y.1 → CeX (msd w n k m y).1
  | 0, _, h => h
  | m + 1, y, h => by
    refine ce_msd hk m (msf w n k (m : Nat) y) ?_
    unfold msf
    by_cases hc : gt y.1 (wka w n (m : Nat)) 0 = 2 ∧ gt y.1 (wka w n (m : Nat)) 3 = 1
    · rw [if_pos hc]
      have hr : 0 ≤ wka w n (m : Nat) ∧ wka w n (m : Nat) < 20 := by
        have := hc.2
        unfold gt at this
        split at this
        · omega
        · omega
      dsimp only
      rw [ups_stc hr (by omega), ups_stc hr (by omega)]
      intro e e0 e1
      obtain ⟨a1, a2⟩ := h e e0 e1
      rw [gt_stc, gt_stc, if_neg (by omega), if_neg (by omega), gt_stc, gt_stc, if_neg (by omega), if_neg (by omega)]
      refine ⟨a1, fun hn k' k0 k1 => ?_⟩
      have hne : e ≠ wka w n (m : Nat) := fun q => hn (by rw [q]; exact hc)
      rw [gt_stc, gt_stc, if_neg (fun s => hne s.1), if_neg (fun s => hne s.1)]
      exact a2 hn k' k0 k1
    · rw [if_neg hc]
      exact h
theorem ce_tof (h : CeX c) : CeX (lp (tof D') 20 0 (c, 0)).1 := by
  obtain ⟨t1, -⟩ := tof_gt (dv := D') 20 0 (c, 0) (Int.le_refl _) (by omega)
  dsimp only at t1
  intro e e0 e1
  obtain ⟨a1, a2⟩ := h e e0 e1
  rw [t1 e 3, t1 e 0]
  by_cases q : 0 ≤ e ∧ e < 0 + ((20 : Nat) : Int) ∧ toB c D' e = true
  · rw [if_pos q, if_pos q]
    refine ⟨Or.inl rfl, fun _ k k0 k1 => ?_⟩
    rw [t1 e, if_pos q]
    unfold offv
    rw [if_neg (by omega), if_neg (by omega), if_pos (by omega)]
  · rw [if_neg q, if_neg q]
    refine ⟨a1, fun hn k k0 k1 => ?_⟩
    rw [t1 e, if_neg q]
    exact a2 hn k k0 k1
end FJ1
