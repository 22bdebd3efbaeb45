/-! CLASS AND REFERENCE: ways up; wire, hops, common -/
section SX
variable {im : zM} {c A : Int → Int} {t : Nat} {e f a b k x y : Int}
/-- what an invariant gives at once -/
theorem Inv_Bas (h : Inv gGd im) : Bas im := by
  obtain ⟨⟨hh, hm, he, hl, ⟨h1, h2, h3⟩, -, -⟩, -, -⟩ := h
  exact ⟨hh, hm, ⟨h2.1.1, h2.1.2.1⟩, Cls_TB h3, TrI_SimT h1, h2.1.2.2.1, he⟩
theorem Inv_Wk (h : Inv gGd im) : WkE im (nowT (im 1 1)) := TrI_WkE h.1.2.2.2.2.1.1
theorem Inv_g (h : Inv gGd im) : gGd (im 172) := h.1.2.2.2.2.1.2.1
theorem Inv_c (h : Inv gGd im) : SimC (im (nowT (im 1 1) + 1)) (im 172) := h.1.2.2.2.2.1.1.1
theorem Inv_Cls (h : Inv gGd im) : Cls (im (nowT (im 1 1) + 1)) := h.1.2.2.2.2.1.2.2
theorem Inv_hh (h : Inv gGd im) : HH im := h.1.1
theorem Inv_n (h : Inv gGd im) : 0 ≤ im (nowT (im 1 1)) 4 ∧ im (nowT (im 1 1)) 4 ≤ 20 := by
  have h1 := h.1.2.2.2.2.1.1.2.2.2.2.1
  have := wkA_bd (A := im 172)
  omega
theorem sc_at (h : SimC c A) (ht : thM A e) : gt c e 1 = A (23 * e + 2) := (sc_d h ht).2.1
theorem sc_sl (h : SimC c A) (ht : thM A e) : gt c e 2 = A (23 * e + 3) := (sc_d h ht).2.2.1
/-- the trees' shapes agree -/
def SimW (c A : Int → Int) : Prop := ∀ e : Int, (0 < gt c e 0 ↔ thM A e) ∧ (gt c e 0 = 2 ↔ brM A e) ∧ (thM A e → gt c e 1 = A (23 * e + 2) ∧ gt c e 2 = A (23 * e + 3))
theorem SimW_of (h : SimC c A) : SimW c A := fun _ => ⟨sc_th h, sc_br h, fun q => ⟨sc_at h q, sc_sl h q⟩⟩
theorem SimW_gt {c' : Int → Int} (h : SimW c A) (hg : ∀ e f : Int, 0 ≤ f → f < 3 → gt c' e f = gt c e f) : SimW c' A := by
  intro e
  rw [hg e 0 (by omega) (by omega), hg e 1 (by omega) (by omega), hg e 2 (by omega) (by omega)]
  exact h e
theorem SimW_A {B : Int → Int} (h : SimW c A) (hA : ∀ e f : Int, 0 ≤ e → e < 20 → 0 ≤ f → f < 4 → B (23 * e + f) = A (23 * e + f)) : SimW c B := by
  intro e
  obtain ⟨h1, h2, h3⟩ := h e
  by_cases q : 0 ≤ e ∧ e < 20
  · unfold brM thM at h2 ⊢
    unfold thM at h1 h3
    rw [hA e 0 q.1 q.2 (by omega) (by omega), hA e 1 q.1 q.2 (by omega) (by omega), hA e 2 q.1 q.2 (by omega) (by omega), hA e 3 q.1 q.2 (by omega) (by omega)]
    exact ⟨h1, h2, h3⟩
  · have hn : ¬ thM B e := fun r => q ⟨r.1, by have := r.2.1; omega⟩
    have hm : ¬ thM A e := fun r => q ⟨r.1, by have := r.2.1; omega⟩
    exact ⟨⟨fun r => absurd (h1.mp r) hm, fun r => absurd r hn⟩, ⟨fun r => absurd (h2.mp r).1 hm, fun r => absurd r.1 hn⟩, fun r => absurd r hn⟩
theorem bh_eq (h : SimW c A) (hp : gPar A) : ∀ (n : Nat) (a : Int), (a = -1 ∨ thM A a) → bhf c b n a = abM A n a b
  | 0, _, _ => rfl
  | n + 1, a, ha => by
    simp only [bhf, abM]
    by_cases q : a = -1
    · rw [if_pos q, if_pos (by omega)]
    · have ht := ha.resolve_left q
      rw [if_neg q, if_neg (show ¬ a < 0 by have := ht.1; omega), ((h _).2.2 ht).1, bh_eq h hp n _ ((hp a ht).imp id (fun r => r.1))]
      by_cases q2 : a = b
      · rw [if_pos q2, decide_eq_true q2.symm]
        rfl
      · rw [if_neg q2, decide_eq_false (fun r => q2 r.symm)]
        rfl
theorem bhB_eq (h : SimW c A) (hp : gPar A) (ht : thM A x) : bhB c x b = bhM A x b := by
  unfold bhM
  rw [← ((h _).2.2 ht).1]
  refine bh_eq h hp 4 _ ?_
  rw [((h _).2.2 ht).1]
  exact (hp x ht).imp id (fun r => r.1)
theorem dp_eq (h : SimW c A) (hp : gPar A) : ∀ (n : Nat) (a : Int), (a = -1 ∨ thM A a) → dpf c n a = lvM A n a
  | 0, _, _ => rfl
  | n + 1, a, ha => by
    simp only [dpf, lvM]
    by_cases q : a = -1
    · rw [if_pos q, if_pos (by omega)]
    · have ht := ha.resolve_left q
      rw [if_neg q, if_neg (by have := ht.1; omega), ((h _).2.2 ht).1, dp_eq h hp n _ ((hp a ht).imp id (fun r => r.1))]
      omega
theorem lb_eq (h : a = -1 ∨ 0 ≤ a) : lbM A a = lvM A 5 a := by
  unfold lbM leM
  by_cases q : a = -1
  · rw [if_pos q, q]
    rfl
  · rw [if_neg q]
    exact (if_neg (by omega)).symm
theorem wr_eq (h : SimW c A) (hp : gPar A) : ∀ (n : Nat) (a x : Int), (a = -1 ∨ thM A a) → wrS c n a x = wrM A n a x
  | 0, _, _, _ => rfl
  | n + 1, a, x, ha => by
    simp only [wrS, wrM]
    by_cases q : a = -1
    · rw [if_pos q, if_pos (by omega)]
    · have ht := ha.resolve_left q
      rw [if_neg q, if_neg (by have := ht.1; omega), ((h _).2.2 ht).1, ((h _).2.2 ht).2, wr_eq h hp n _ _ ((hp a ht).imp id (fun r => r.1))]
theorem cm_congr {p q : Int → Bool} : ∀ (n : Nat) (b : Int), (∀ x, abM A n b x = true → p x = q x) → cmM A p n b = cmM A q n b
  | 0, _, _ => rfl
  | n + 1, b, h => by
    simp only [cmM]
    by_cases c1 : b < 0
    · rw [if_pos c1, if_pos c1]
    · have e1 : p b = q b := h b (by
        simp only [abM]
        rw [if_neg c1]
        simp)
      rw [if_neg c1, if_neg c1, e1, cm_congr n _ (fun x hx => h x (by
        simp only [abM]
        rw [if_neg c1, hx]
        simp))]
theorem cm_eqR (h : SimW c A) (hp : gPar A) (hy : thM A y) : ∀ (n : Nat) (a : Int), (a = -1 ∨ thM A a) → cmF c y n a = cmM A (fun i => bhM A y i) n a
  | 0, _, _ => rfl
  | n + 1, a, ha => by
    simp only [cmF, cmM]
    by_cases q : a = -1
    · rw [if_pos q, if_pos (by omega)]
    · have ht := ha.resolve_left q
      rw [if_neg q, if_neg (show ¬ a < 0 by have := ht.1; omega), bhB_eq h hp hy, ((h _).2.2 ht).1, cm_eqR h hp hy n _ ((hp a ht).imp id (fun r => r.1))]
theorem Cls_SLr (h : Cls c) : SLr c := by
  intro e
  by_cases q : 0 ≤ e ∧ e < 20
  · have := (h e q.1 q.2).2.2.2.1
    omega
  · rw [gt_out q]
    omega
theorem sp_wire : Sp2 99 (Inv gGd) 115 235 := by
  intro im hI dv _ a _
  obtain ⟨hh, hm, ⟨hg, hu⟩, hb, -⟩ := Inv_Bas hI
  have hc := Inv_c hI
  have hp := (Inv_g hI).1.2.2.2.2.1
  refine (c_wire (d := 96) hh rfl (Cls_SLr (Inv_Cls hI))).mpr ⟨_, rfl, (c_wireM (d := 97) hu).mpr ⟨?_, hI⟩⟩
  by_cases c1 : thM (im 172) dv ∧ 0 ≤ a ∧ a ≤ 3
  · rw [if_pos c1, if_pos (show 0 < gt (im (nowT (im 1 1) + 1)) dv 0 ∧ 0 ≤ a ∧ a < 4 from ⟨(sc_th hc).mpr c1.1, c1.2.1, by omega⟩), sc_at hc c1.1, sc_sl hc c1.1, wr_eq (SimW_of hc) hp 4 _ _ ((hp dv c1.1).imp id (fun r => r.1))]
    have e5 : wrM (im 172) 5 dv a = wrM (im 172) 4 (im 172 (23 * dv + 2)) (a + im 172 (23 * dv + 3)) := by
      have h0 : 0 ≤ dv := c1.1.1
      have : ¬ dv < 0 := by omega
      simp only [wrM, if_neg this]
    rw [e5]
  · rw [if_neg c1, if_neg (fun q => c1 ⟨(sc_th hc).mp q.1, q.2.1, by omega⟩)]
theorem sp_hops : Sp2 99 (Inv gGd) 116 236 := by
  intro im hI x _ y _
  obtain ⟨hh, hm, ⟨hg, hu⟩, hb, -⟩ := Inv_Bas hI
  have hc := Inv_c hI
  have hp := (Inv_g hI).1.2.2.2.2.1
  refine (c_hops (d := 96) hh rfl).mpr ⟨_, rfl, (c_hopsM (d := 96) hu).mpr ⟨?_, hI⟩⟩
  by_cases c1 : thM (im 172) x ∧ thM (im 172) y
  · rw [if_pos c1, if_pos (show 0 < gt (im (nowT (im 1 1) + 1)) x 0 ∧ 0 < gt (im (nowT (im 1 1) + 1)) y 0 from ⟨(sc_th hc).mpr c1.1, (sc_th hc).mpr c1.2⟩)]
    have e0 : lp (cntf (hpB (im (nowT (im 1 1) + 1)) x y)) 20 0 0 = lp (cntf (hpM (im 172) x y)) 20 0 0 := cnt_congr 20 0 0 (fun j _ _ => by
      unfold hpB hpM
      rw [bhB_eq (SimW_of hc) hp c1.1, bhB_eq (SimW_of hc) hp c1.2]
      cases bhM (im 172) x j <;> cases bhM (im 172) y j <;> by_cases q1 : j = x <;> by_cases q2 : j = y <;> simp [q1, q2])
    rw [e0]
  · rw [if_neg c1, if_neg (fun q => c1 ⟨(sc_th hc).mp q.1, (sc_th hc).mp q.2⟩)]
theorem sp_common : Sp2 99 (Inv gGd) 117 237 := by
  intro im hI x _ y _
  obtain ⟨hh, hm, ⟨hg, hu⟩, hb, -⟩ := Inv_Bas hI
  have hc := Inv_c hI
  have hp := (Inv_g hI).1.2.2.2.2.1
  refine (c_common (d := 96) hh rfl).mpr ⟨_, rfl, (c_commonM (d := 97) hu).mpr ⟨?_, hI⟩⟩
  by_cases c1 : thM (im 172) x ∧ thM (im 172) y
  · rw [if_pos c1, if_pos (show 0 < gt (im (nowT (im 1 1) + 1)) x 0 ∧ 0 < gt (im (nowT (im 1 1) + 1)) y 0 from ⟨(sc_th hc).mpr c1.1, (sc_th hc).mpr c1.2⟩), sc_at hc c1.1, cm_eqR (SimW_of hc) hp c1.2 4 _ ((hp x c1.1).imp id (fun r => r.1))]
    have e0 : cmM (im 172) (fun i => bhM (im 172) x i && bhM (im 172) y i) 4 (im 172 (23 * x + 2)) = cmM (im 172) (fun i => bhM (im 172) y i) 4 (im 172 (23 * x + 2)) := cm_congr 4 _ (fun j hj => by
      have e1 : bhM (im 172) x j = true := hj
      rw [e1, Bool.true_and])
    rw [e0]
  · rw [if_neg c1, if_neg (fun q => c1 ⟨(sc_th hc).mp q.1, (sc_th hc).mp q.2⟩)]
end SX
