/-! ACTS: endpoint and bridge -/
section AP
variable {im X Y : zM} {c A B : Int → Int} {e f a b p x d sl wh nu un ty : Int}
theorem gt_plgc (hd : 0 ≤ d ∧ d < 20) : gt (plgc c d ty a sl) e f = if e = d ∧ f = 0 then ty else if e = d ∧ f = 1 then a else if e = d ∧ f = 2 then sl else if e = d ∧ (f = 7 ∨ f = 8 ∨ (15 ≤ f ∧ f ≤ 19)) then -1 else if e = d ∧ (f = 20 ∨ f = 21) then 0 else gt c e f := by
  unfold plgc clrf ups gt
  by_cases hr : 0 ≤ e ∧ e < 20 ∧ 0 ≤ f ∧ f < 24
  · simp only [if_pos hr]
    by_cases q : e = d
    · subst q
      simp only [true_and]
      by_cases f0 : f = 0
      · rw [if_pos f0, if_neg (by omega), if_neg (by omega), if_neg (by omega), if_neg (by omega), if_pos (by omega)]
      · by_cases f1 : f = 1
        · rw [if_neg f0, if_pos f1, if_neg (by omega), if_neg (by omega), if_neg (by omega), if_pos (by omega)]
        · by_cases f2 : f = 2
          · rw [if_neg f0, if_neg f1, if_pos f2, if_neg (by omega), if_neg (by omega), if_pos (by omega)]
          · rw [if_neg f0, if_neg f1, if_neg f2]
            by_cases f3 : f = 7 ∨ f = 8 ∨ (15 ≤ f ∧ f ≤ 19)
            · rw [if_pos f3, if_pos (by omega)]
            · rw [if_neg f3, if_neg (show ¬ (e * 24 + f = e * 24 + 7 ∨ e * 24 + f = e * 24 + 8 ∨ e * 24 + 15 ≤ e * 24 + f ∧ e * 24 + f ≤ e * 24 + 19) by omega)]
              by_cases f4 : f = 20 ∨ f = 21
              · rw [if_pos f4, if_pos (by omega)]
              · rw [if_neg f4, if_neg (by omega), if_neg (by omega), if_neg (by omega), if_neg (by omega)]
    · rw [if_neg (show ¬ (e = d ∧ f = 0) by omega), if_neg (show ¬ (e = d ∧ f = 1) by omega), if_neg (show ¬ (e = d ∧ f = 2) by omega), if_neg (show ¬ (e = d ∧ (f = 7 ∨ f = 8 ∨ 15 ≤ f ∧ f ≤ 19)) by omega), if_neg (show ¬ (e = d ∧ (f = 20 ∨ f = 21)) by omega)]
      rw [if_neg (by omega), if_neg (by omega), if_neg (by omega), if_neg (by omega), if_neg (by omega)]
  · simp only [if_neg hr]
    rw [if_neg (by omega), if_neg (by omega), if_neg (by omega), if_neg (by omega), if_neg (by omega)]
/-- the reference's new row -/
def nwA (A : Int → Int) (d a sl wh nu un : Int) : Int → Int := ups (ups (plM A d a sl wh) (23 * d + 15) nu) (23 * d + 16) un
theorem nwA_far {j : Int} (h : j < 23 * d ∨ 23 * d + 23 ≤ j) : nwA A d a sl wh nu un j = A j := by
  unfold nwA
  rw [ups_ne _ _ (by omega), ups_ne _ _ (by omega)]
  unfold plM ofM
  rw [if_neg (by omega), if_neg (by omega), ups_ne _ _ (by omega), ups_ne _ _ (by omega), ups_ne _ _ (by omega), ups_ne _ _ (by omega)]
  exact if_neg (by omega)
theorem nwA_ne (he : e ≠ d) (hf : 0 ≤ f ∧ f < 23) : nwA A d a sl wh nu un (23 * e + f) = A (23 * e + f) := nwA_far (by omega)
theorem nwA_at (hf : 0 ≤ f ∧ f < 23) : nwA A d a sl wh nu un (23 * d + f) = if f = 0 then 1 else if f = 1 then wh else if f = 2 then a else if f = 3 then sl else if f = 15 then nu else if f = 16 then un else if f = 17 ∨ f = 18 ∨ (12 ≤ f ∧ f ≤ 14) ∨ f = 19 ∨ f = 20 then -1 else 0 := by
  unfold nwA
  by_cases f16 : f = 16
  · rw [f16, ups_at]
    rfl
  · rw [ups_ne _ _ (by omega)]
    by_cases f15 : f = 15
    · rw [f15, ups_at]
      rfl
    · rw [ups_ne _ _ (by omega), if_neg f15, if_neg f16]
      unfold plM ofM
      by_cases g1 : f = 4 ∨ f = 21 ∨ f = 22
      · rw [if_pos (by omega), if_neg (by omega), if_neg (by omega), if_neg (by omega), if_neg (by omega), if_neg (by omega)]
      · rw [if_neg (show ¬ (23 * d + f = 23 * d + 4 ∨ 23 * d + f = 23 * d + 21 ∨ 23 * d + f = 23 * d + 22) by omega)]
        by_cases g2 : f = 17 ∨ f = 18 ∨ (12 ≤ f ∧ f ≤ 14) ∨ f = 19 ∨ f = 20
        · rw [if_pos (by omega), if_neg (by omega), if_neg (by omega), if_neg (by omega), if_neg (by omega), if_pos g2]
        · rw [if_neg (show ¬ (23 * d + f = 23 * d + 17 ∨ 23 * d + f = 23 * d + 18 ∨ 23 * d + 12 ≤ 23 * d + f ∧ 23 * d + f ≤ 23 * d + 14 ∨ 23 * d + f = 23 * d + 19 ∨ 23 * d + f = 23 * d + 20) by omega), if_neg g2]
          by_cases f3 : f = 3
          · rw [f3, ups_at]
            rfl
          · rw [ups_ne _ _ (by omega), if_neg f3]
            by_cases f2 : f = 2
            · rw [f2, ups_at]
              rfl
            · rw [ups_ne _ _ (by omega), if_neg f2]
              by_cases f1 : f = 1
              · rw [f1, ups_at]
                rfl
              · rw [ups_ne _ _ (by omega), if_neg f1]
                by_cases f0 : f = 0
                · rw [f0, ups_at]
                  rfl
                · rw [ups_ne _ _ (by omega), if_neg f0]
                  exact if_pos (by omega)
theorem plM_nwA : plM A d a sl 0 = nwA A d a sl 0 0 0 := by
  funext j
  unfold nwA
  by_cases q : j = 23 * d + 16
  · rw [q, ups_at]
    unfold plM ofM
    rw [if_neg (by omega), if_neg (by omega), ups_ne _ _ (by omega), ups_ne _ _ (by omega), ups_ne _ _ (by omega), ups_ne _ _ (by omega)]
    exact if_pos (by omega)
  · rw [ups_ne _ _ q]
    by_cases q2 : j = 23 * d + 15
    · rw [q2, ups_at]
      unfold plM ofM
      rw [if_neg (by omega), if_neg (by omega), ups_ne _ _ (by omega), ups_ne _ _ (by omega), ups_ne _ _ (by omega), ups_ne _ _ (by omega)]
      exact if_pos (by omega)
    · rw [ups_ne _ _ q2]
/-- the state after a device was plugged in is good -/
theorem nw_th (hd : 0 ≤ d ∧ d < 20) : thM (nwA A d a sl wh nu un) e ↔ (e = d ∨ (e ≠ d ∧ thM A e)) := by
  by_cases q : e = d
  · rw [q]
    refine ⟨fun _ => Or.inl rfl, fun _ => ⟨hd.1, by omega, ?_⟩⟩
    rw [nwA_at (by omega)]
    rfl
  · unfold thM
    rw [nwA_ne q (by omega)]
    exact ⟨fun r => Or.inr ⟨q, r⟩, fun r => (r.resolve_left q).2⟩
theorem nw_good (hg : gGd A) (hd : 0 ≤ d ∧ d < 20) (hv : ¬ thM A d) (ha : a = -1 ∨ brM A a) (hsl : 0 ≤ sl ∧ sl ≤ 7) (hfree : ff (isM A a sl) 20 0 < 0) (hlv : lbM A a ≤ 4) (hw : wh = 0 ∨ wh = 1) (hnu : 0 ≤ nu ∧ nu ≤ 3) (hun : 0 ≤ un ∧ un ≤ 128) : gGd (nwA A d a sl wh nu un) := by
  obtain ⟨⟨g1, g2, g3, g4, g5, g6, g7, g8, g9⟩, gO'⟩ := hg
  have had : a ≠ d := fun q => by
    rcases ha with r | r
    · omega
    · exact hv (q ▸ r.1)
  have hlv' : lvM A 5 a ≤ 4 := by
    rw [← lb_eq (ha.imp id (fun r => r.1.1))]
    exact hlv
  have hrow : ∀ e, thM A e → nwA A d a sl wh nu un (23 * e + 2) = A (23 * e + 2) ∧ nwA A d a sl wh nu un (23 * e + 3) = A (23 * e + 3) := fun e he => by
    have : e ≠ d := fun q => hv (q ▸ he)
    exact ⟨nwA_ne this (by omega), nwA_ne this (by omega)⟩
  have hpar : ∀ p, brM A p → brM (nwA A d a sl wh nu un) p := fun p hp => by
    have : p ≠ d := fun q => hv (q ▸ hp.1)
    refine ⟨(nw_th hd).mpr (Or.inr ⟨this, hp.1⟩), ?_⟩
    rw [nwA_ne this (by omega)]
    exact hp.2
  have hMG : MG (nwA A d a sl wh nu un) := by
    intro e e0 e1
    by_cases q : e = d
    · subst q
      have har : -1 ≤ a ∧ a ≤ 19 := by
        rcases ha with r | r
        · omega
        · have := r.1.1
          have := r.1.2.1
          omega
      rw [nwA_at (by omega), nwA_at (by omega), nwA_at (by omega), nwA_at (by omega), nwA_at (by omega), nwA_at (by omega), nwA_at (by omega), nwA_at (by omega), nwA_at (by omega)]
      refine ⟨by simp only [show ¬ (1 : Int) = 0 by omega, if_true, if_false]; omega, by simp; exact har, by simp; exact hsl, by simp, by simp, fun a' a0 a1 => ?_, by simp; exact hnu, by simp; exact hun, by simp, by simp, fun k k0 k1 => ?_⟩
      · rw [nwA_at (by omega), nwA_at (by omega), nwA_at (by omega)]
        rw [if_neg (by omega), if_neg (by omega), if_neg (by omega), if_neg (by omega), if_neg (by omega), if_neg (by omega), if_neg (by omega), if_neg (by omega), if_neg (by omega), if_neg (by omega), if_neg (by omega), if_neg (by omega), if_neg (by omega), if_neg (by omega), if_neg (by omega), if_neg (by omega), if_neg (by omega), if_neg (by omega), if_neg (by omega), if_neg (by omega), if_pos (by omega)]
        omega
      · rw [nwA_at (by omega), nwA_at (by omega)]
        rw [if_neg (by omega), if_neg (by omega), if_neg (by omega), if_neg (by omega), if_neg (by omega), if_neg (by omega), if_pos (by omega), if_neg (by omega), if_neg (by omega), if_neg (by omega), if_neg (by omega), if_neg (by omega), if_neg (by omega), if_neg (by omega)]
        omega
    · have h := g1 e e0 e1
      have hr : ∀ f : Int, 0 ≤ f → f < 23 → nwA A d a sl wh nu un (23 * e + f) = A (23 * e + f) := fun f f0 f1 => nwA_ne q ⟨f0, f1⟩
      rw [hr 1 (by omega) (by omega), hr 2 (by omega) (by omega), hr 3 (by omega) (by omega), hr 4 (by omega) (by omega), hr 5 (by omega) (by omega), hr 15 (by omega) (by omega), hr 16 (by omega) (by omega), hr 17 (by omega) (by omega), hr 18 (by omega) (by omega)]
      obtain ⟨m1, m2, m3, m4, m5, m6, m7, m8, m9, m10, m11⟩ := h
      refine ⟨m1, m2, m3, m4, m5, fun a' a0 a1 => ?_, m7, m8, m9, m10, fun k k0 k1 => ?_⟩
      · rw [hr _ (by omega) (by omega), hr _ (by omega) (by omega), hr _ (by omega) (by omega)]
        exact m6 a' a0 a1
      · rw [hr _ (by omega) (by omega), hr _ (by omega) (by omega)]
        exact m11 k k0 k1
  have hup : ∀ n b, (b = -1 ∨ thM A b) → upM A n b → upM (nwA A d a sl wh nu un) n b := fun n b hb h => up_frame g5 hrow n b hb h
  have hparN : gPar (nwA A d a sl wh nu un) := by
    intro e he
    rcases (nw_th hd).mp he with q | ⟨q, q1⟩
    · rw [q, nwA_at (by omega)]
      exact ha.imp id (fun r => hpar a r)
    · rw [nwA_ne q (by omega)]
      exact (g5 e q1).imp id (fun r => hpar _ r)
  refine ⟨⟨hMG, ?_, ?_, ?_, hparN, ?_, ?_, ?_, ?_⟩, gO_less gO' g1 hMG ?_ ?_ ?_ ?_⟩
  · intro e e0 e1 he
    rcases (nw_th hd).mp ⟨e0, by omega, he⟩ with q | ⟨q, q1⟩
    · rw [q]
      refine Or.inr ⟨hd.2, ?_, ?_⟩
      · rw [nwA_at (by omega)]
        exact hsl
      · rw [nwA_at (by omega)]
        exact hup 4 a (ha.imp id (fun r => r.1)) (up_lv g5 g2 4 a (ha.imp id (fun r => r.1)) hlv')
    · exact hup 5 e (Or.inr q1) (g2 e e0 e1 q1.2.2)
  · rw [nwA_far (by omega)]
    exact g3
  · intro k k0 k1
    rw [nwA_far (by omega)]
    exact g4 k k0 k1
  · intro e f he hf h1 h2
    rcases (nw_th hd).mp he with q | ⟨q, q1⟩ <;> rcases (nw_th hd).mp hf with r | ⟨r, r1⟩
    · omega
    · exfalso
      rw [q, nwA_at (by omega), nwA_ne r (by omega)] at h1 h2
      have hc := ff_none 20 0 (by omega) (by rcases ff_cases (isM A a sl) 20 0 with s | s; exact s; omega) f r1.1 (by have := r1.2.1; omega)
      unfold isM at hc
      exact absurd ⟨r1, h1.symm, h2.symm⟩ (of_decide_eq_false hc)
    · exfalso
      rw [r, nwA_at (by omega), nwA_ne q (by omega)] at h1 h2
      have hc := ff_none 20 0 (by omega) (by rcases ff_cases (isM A a sl) 20 0 with s | s; exact s; omega) e q1.1 (by have := q1.2.1; omega)
      unfold isM at hc
      exact absurd ⟨q1, h1, h2⟩ (of_decide_eq_false hc)
    · rw [nwA_ne q (by omega), nwA_ne r (by omega)] at h1 h2
      exact g6 e f q1 r1 h1 h2
  · intro e he
    rcases (nw_th hd).mp he.1 with q | ⟨q, q1⟩
    · rw [q, nwA_at (by omega)]
      rfl
    · have h2 := he.2
      rw [nwA_ne q (by omega)] at h2 ⊢
      exact g7 e ⟨q1, h2⟩
  · intro e a' he a0 a1
    rcases (nw_th hd).mp he with q | ⟨q, q1⟩
    · rw [q, nwA_at (by omega)] at a1
      simp at a1
      omega
    · rw [nwA_ne q (by omega)] at a1
      have hm := (g1 e (th_rg q1).1 (th_rg q1).2).2.2.2.2.1
      rw [nwA_ne q (by omega)]
      exact g8 e a' q1 a0 a1
  · intro e k he k0 k1
    rcases (nw_th hd).mp he.1 with q | ⟨q, q1⟩
    · rw [q, nwA_at (by omega), if_neg (by omega), if_neg (by omega), if_neg (by omega), if_neg (by omega), if_neg (by omega), if_neg (by omega), if_neg (by omega)]
    · have h2 := he.2
      rw [nwA_ne q (by omega)] at h2 ⊢
      exact g9 e k ⟨q1, h2⟩ k0 k1
  · intro k k0 k1
    exact nwA_far (by omega)
  · intro e he
    rcases (nw_th hd).mp he.1 with q | ⟨q, q1⟩
    · have h2 := he.2
      rw [q, nwA_at (by omega)] at h2
      simp at h2
    · have h2 := he.2
      rw [nwA_ne q (by omega)] at h2
      exact ⟨⟨q1, h2⟩, fun f f0 f1 => nwA_ne q ⟨f0, f1⟩⟩
  · intro e he
    rcases (nw_th hd).mp he.1 with q | ⟨q, q1⟩
    · have h2 := he.2
      rw [q, nwA_at (by omega)] at h2
      simp at h2
    · have h2 := he.2
      rw [nwA_ne q (by omega)] at h2
      rw [nwA_ne q (by omega)]
      refine (gO'.1 e ⟨q1, h2⟩).imp id (fun r => ?_)
      have hne : A (23 * e + 2) ≠ d := fun s => hv (s ▸ r.1)
      exact ⟨(nw_th hd).mpr (Or.inr ⟨hne, r.1⟩), by rw [nwA_ne hne (by omega)]; exact r.2⟩
  · intro e he hn
    rcases (nw_th hd).mp he with q | ⟨q, q1⟩
    · rw [q, nwA_at (by omega), nwA_at (by omega)]
      refine ⟨by simp, by simp, fun a' a0 a1 => ?_, fun k k0 k1 => ?_⟩
      · rw [nwA_at (by omega), if_neg (by omega), if_neg (by omega), if_neg (by omega), if_neg (by omega), if_neg (by omega), if_neg (by omega), if_pos (by omega)]
      · rw [nwA_at (by omega), nwA_at (by omega), if_neg (by omega), if_neg (by omega), if_neg (by omega), if_neg (by omega), if_neg (by omega), if_neg (by omega), if_pos (by omega), if_neg (by omega), if_neg (by omega), if_neg (by omega), if_neg (by omega), if_neg (by omega), if_neg (by omega), if_neg (by omega)]
        exact ⟨rfl, rfl⟩
    · have hr : ∀ f : Int, 0 ≤ f → f < 23 → nwA A d a sl wh nu un (23 * e + f) = A (23 * e + f) := fun f f0 f1 => nwA_ne q ⟨f0, f1⟩
      have hn' : ¬ onM A e := fun s => hn ⟨he, by rw [hr 4 (by omega) (by omega)]; exact s.2⟩
      obtain ⟨o1, o2, o3, o4⟩ := gO'.2.1 e q1 hn'
      rw [hr _ (by omega) (by omega), hr _ (by omega) (by omega)]
      refine ⟨o1, o2, fun a' a0 a1 => ?_, fun k k0 k1 => ?_⟩
      · rw [hr _ (by omega) (by omega)]
        exact o3 a' a0 a1
      · rw [hr _ (by omega) (by omega), hr _ (by omega) (by omega)]
        exact o4 k k0 k1
end AP
