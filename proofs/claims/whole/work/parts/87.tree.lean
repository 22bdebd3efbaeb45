/-! CLASS AND REFERENCE: a tree and 483 numbers are one state; copies of trees -/
section ST
variable {im : zM} {c A B : Int → Int} {t u v : Nat} {e f : Int}
/-- the walk of 483 numbers -/
def wkA (A : Int → Int) : (Int → Int) × Int := lp (lwM A) 20 0 (fun _ => 0, 0)
theorem inW_far {A : Int → Int} {e : Int} : ∀ (k : Nat) (o : Int → Int) (m : Int), (k : Int) < m → inW A e k o m = o m
  | 0, o, m, h => by rw [inW, ups_ne _ _ (by omega)]
  | k + 1, o, m, h => by
    simp only [inW]
    split
    · rw [inW_far k _ _ (by omega), ups_ne _ _ (by omega)]
    · rw [ups_ne _ _ (by omega)]
/-- putting in looks at nothing behind -/
theorem inW_eq {A : Int → Int} {e : Int} : ∀ (k : Nat) (o o' : Int → Int), (∀ j : Int, 0 ≤ j → j < k → o j = o' j) → ∀ j : Int, 0 ≤ j → j ≤ k → inW A e k o j = inW A e k o' j
  | 0, o, o', h, j, h0, h1 => by
    rw [inW, inW, show j = 0 by omega, ups_at, ups_at]
  | k + 1, o, o', h, j, h0, h1 => by
    simp only [inW]
    rw [← h k (by omega) (by omega)]
    split
    · by_cases q : j = (k : Int) + 1
      · rw [q, inW_far k _ _ (by omega), inW_far k _ _ (by omega), ups_at, ups_at]
      · refine inW_eq k _ _ (fun i h2 h3 => ?_) j h0 (by omega)
        rw [ups_ne _ _ (by omega), ups_ne _ _ (by omega)]
        exact h i h2 (by omega)
    · by_cases q : j = (k : Int) + 1
      · rw [q, ups_at, ups_at]
      · rw [ups_ne _ _ q, ups_ne _ _ q]
        exact h j h0 (by omega)
theorem lw_eq {A : Int → Int} : ∀ (n : Nat) (i : Int) (y y' : (Int → Int) × Int), 0 ≤ y.2 → y.2 = y'.2 → (∀ j : Int, 0 ≤ j → j < y.2 → y.1 j = y'.1 j) → (lp (lwM A) n i y).2 = (lp (lwM A) n i y').2 ∧ ∀ j : Int, 0 ≤ j → j < (lp (lwM A) n i y).2 → (lp (lwM A) n i y).1 j = (lp (lwM A) n i y').1 j
  | 0, _, y, y', h0, h1, h2 => ⟨h1, h2⟩
  | n + 1, i, y, y', h0, h1, h2 => by
    simp only [lp]
    by_cases q : thM A i
    · have e1 : lwM A i y = (inW A i y.2.toNat y.1, y.2 + 1) := if_pos q
      have e2 : lwM A i y' = (inW A i y'.2.toNat y'.1, y'.2 + 1) := if_pos q
      refine lw_eq n (i + 1) _ _ (by rw [e1]; dsimp only; omega) (by rw [e1, e2]; dsimp only; omega) ?_
      rw [e1, e2]
      dsimp only
      rw [← h1]
      intro j h3 h4
      exact inW_eq y.2.toNat y.1 y'.1 (fun i h5 h6 => h2 i h5 (by omega)) j h3 (by omega)
    · have e1 : lwM A i y = y := if_neg q
      have e2 : lwM A i y' = y' := if_neg q
      rw [e1, e2]
      exact lw_eq n (i + 1) y y' h0 h1 h2
theorem wa_eq : (waM im).2 = (wkA (im 172)).2 ∧ ∀ j : Int, 0 ≤ j → j < (waM im).2 → (waM im).1 j = (wkA (im 172)).1 j := lw_eq 20 0 (im 173, 0) (fun _ => 0, 0) (Int.le_refl _) rfl (fun j h0 h1 => by dsimp only at h1; omega)
/-- tree t and the numbers A are one state -/
def TrI (im : zM) (t : Nat) (A : Int → Int) : Prop := SimC (im (t + 1)) A ∧ (∀ k : Int, 0 ≤ k → k < 2 → im (t + 2) k = A (460 + k)) ∧ im t 5 = A 462 ∧ (∀ i : Int, 0 ≤ i → i < A 462 → im (t + 4) i = A (463 + i)) ∧ im t 4 = (wkA A).2 ∧ (∀ i : Int, 0 ≤ i → i < (wkA A).2 → im (t + 3) i = (wkA A).1 i)
theorem TrI_SimT (h : TrI im t (im 172)) : SimT im t := ⟨h.1, h.2.1, h.2.2.1, fun i h0 h1 => h.2.2.2.1 i h0 (by have := h.2.2.1; omega)⟩
theorem TrI_WkE (h : TrI im t (im 172)) : WkE im t := by
  obtain ⟨w1, w2⟩ := wa_eq (im := im)
  refine ⟨by rw [h.2.2.2.2.1, w1], fun i h0 h1 => ?_⟩
  have h4 := h.2.2.2.2.1
  rw [h.2.2.2.2.2 i h0 (by omega), w2 i h0 (by omega)]
theorem cp_gt : gt (cpa 480 c A) e f = gt A e f := by
  unfold gt cpa
  by_cases q : 0 ≤ e ∧ e < 20 ∧ 0 ≤ f ∧ f < 24
  · rw [if_pos q, if_pos q, if_pos ⟨by omega, by omega⟩]
  · rw [if_neg q, if_neg q]
theorem SimC_gt {c' : Int → Int} (hg : ∀ e f, gt c' e f = gt c e f) (h : SimC c A) : SimC c' A := by
  unfold SimC SimD at h ⊢
  simp only [hg]
  exact h
/-- a tree is copied -/
theorem TrI_cp (h : TrI im u A) (hm : A 462 ≤ 20) (hn : (wkA A).2 ≤ 20) : TrI (cpt im t u) t A := by
  obtain ⟨h1, h2, h3, h4, h5, h6⟩ := h
  unfold TrI cpt
  refine ⟨?_, fun k k0 k1 => ?_, ?_, fun i i0 i1 => ?_, ?_, fun i i0 i1 => ?_⟩
  · rw [setc_ne _ _ (by omega), setc_ne _ _ (by omega), setc_ne _ _ (by omega), setc_ne _ _ (by omega), setc_at]
    exact SimC_gt (fun _ _ => cp_gt) h1
  · rw [setc_ne _ _ (by omega), setc_ne _ _ (by omega), setc_ne _ _ (by omega), setc_at]
    unfold cpa
    rw [if_pos ⟨k0, k1⟩, h2 k k0 k1]
  · rw [setc_at, ups_at, h3]
  · rw [setc_ne _ _ (by omega), setc_at]
    unfold cpa
    rw [if_pos ⟨i0, by omega⟩, h4 i i0 i1]
  · rw [setc_at, ups_ne _ _ (by omega), ups_at, h5]
  · rw [setc_ne _ _ (by omega), setc_ne _ _ (by omega), setc_at]
    unfold cpa
    rw [if_pos ⟨i0, by omega⟩, h6 i i0 i1]
/-- a state speaks of its own tree alone -/
theorem TrI_of {X : zM} (h : TrI im v A) (hX : ∀ p : Nat, v ≤ p → p ≤ v + 4 → X p = im p) : TrI X v A := by
  unfold TrI at h ⊢
  rw [hX v (by omega) (by omega), hX (v + 1) (by omega) (by omega), hX (v + 2) (by omega) (by omega), hX (v + 3) (by omega) (by omega), hX (v + 4) (by omega) (by omega)]
  exact h
theorem TrI_other (h : TrI im v A) (hd : v + 5 ≤ t ∨ t + 5 ≤ v) : TrI (cpt im t u) v A := TrI_of h (fun p h0 h1 => cpt_ne (by omega))
/-- and of its 483 numbers alone -/
theorem th_congr (h : ∀ j : Int, 0 ≤ j → j < 483 → A j = B j) : thM A e ↔ thM B e := by
  constructor
  · exact fun q => ⟨q.1, q.2.1, by rw [← h _ (by omega) (by omega)]; exact q.2.2⟩
  · exact fun q => ⟨q.1, q.2.1, by rw [h _ (by omega) (by omega)]; exact q.2.2⟩
theorem SimC_congr (h : ∀ j : Int, 0 ≤ j → j < 483 → A j = B j) (hg : MG A) (hs : SimC c A) : SimC c B := by
  intro e h0 h1
  have hf : ∀ f : Int, 0 ≤ f → f < 23 → A (23 * e + f) = B (23 * e + f) := fun f f0 f1 => h _ (by omega) (by omega)
  have hm := MG_many hg (dv := e) ⟨h0, h1⟩
  have hq := hs e h0 h1
  unfold SimD at hq ⊢
  rw [hf 0 (by omega) (by omega), hf 1 (by omega) (by omega), hf 2 (by omega) (by omega), hf 3 (by omega) (by omega), hf 4 (by omega) (by omega), hf 5 (by omega) (by omega), hf 15 (by omega) (by omega), hf 16 (by omega) (by omega), hf 17 (by omega) (by omega), hf 18 (by omega) (by omega)] at hq
  rw [hf 5 (by omega) (by omega)] at hm
  obtain ⟨q1, q2, q3, q4⟩ := hq
  refine ⟨q1, q2, fun ht => ?_, q4⟩
  obtain ⟨d1, d2, d3, d4, d5, d6, d7, d8, d9⟩ := q3 ht
  refine ⟨d1, d2, d3, d4, d5, d6, d7, fun a a0 a1 => ?_, fun hb => ⟨(d9 hb).1, fun ho => ?_⟩⟩
  · have := d8 a a0 a1
    rw [hf (6 + a) (by omega) (by omega), hf (9 + a) (by omega) (by omega), hf (12 + a) (by omega) (by omega)] at this
    exact this
  · obtain ⟨b1, b2, b3⟩ := (d9 hb).2 ho
    refine ⟨b1, b2, fun k k0 k1 => ?_⟩
    have := b3 k k0 k1
    rw [hf (19 + k) (by omega) (by omega), hf (21 + k) (by omega) (by omega)] at this
    exact this
end ST
