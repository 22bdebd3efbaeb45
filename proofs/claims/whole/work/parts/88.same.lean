/-! CLASS AND REFERENCE: what is seen of 483 numbers alone; rows of the history -/
section SH
variable {im : zM} {c A B : Int → Int} {t u v : Nat} {e f : Int}
/-- the same 483 numbers -/
def Sm (A B : Int → Int) : Prop := ∀ j : Int, 0 ≤ j → j < 483 → A j = B j
theorem Sm_sym (h : Sm A B) : Sm B A := fun j h0 h1 => (h j h0 h1).symm
theorem Sm_at (h : Sm A B) (he : 0 ≤ e ∧ e < 20) (hf : 0 ≤ f ∧ f < 23) : A (23 * e + f) = B (23 * e + f) := h _ (by omega) (by omega)
theorem MG_congr (h : Sm A B) (hg : MG A) : MG B := by
  intro e h0 h1
  have hf : ∀ f : Int, 0 ≤ f → f < 23 → A (23 * e + f) = B (23 * e + f) := fun f f0 f1 => Sm_at h ⟨h0, h1⟩ ⟨f0, f1⟩
  obtain ⟨g1, g2, g3, g4, g5, g6, g7, g8, g9, g10, g11⟩ := hg e h0 h1
  rw [hf 1 (by omega) (by omega)] at g1
  rw [hf 2 (by omega) (by omega)] at g2
  rw [hf 3 (by omega) (by omega)] at g3
  rw [hf 4 (by omega) (by omega)] at g4
  rw [hf 5 (by omega) (by omega)] at g5
  rw [hf 15 (by omega) (by omega)] at g7
  rw [hf 16 (by omega) (by omega)] at g8
  rw [hf 17 (by omega) (by omega)] at g9
  rw [hf 18 (by omega) (by omega)] at g10
  refine ⟨g1, g2, g3, g4, g5, fun a a0 a1 => ?_, g7, g8, g9, g10, fun k k0 k1 => ?_⟩
  · have := g6 a a0 a1
    rw [hf (6 + a) (by omega) (by omega), hf (9 + a) (by omega) (by omega), hf (12 + a) (by omega) (by omega)] at this
    exact this
  · have := g11 k k0 k1
    rw [hf (19 + k) (by omega) (by omega), hf (21 + k) (by omega) (by omega)] at this
    exact this
theorem up_congr (h : Sm A B) : ∀ (n : Nat) (b : Int), upM A n b → upM B n b
  | 0, _, q => q
  | n + 1, b, q => by
    simp only [upM] at q ⊢
    rcases q with q | ⟨q1, q2, q3⟩
    · exact Or.inl q
    · by_cases hb : b < 0
      · exact Or.inl hb
      · refine Or.inr ⟨q1, ?_, ?_⟩
        · rw [← Sm_at h (e := b) (f := 3) (by omega) (by omega)]
          exact q2
        · rw [← Sm_at h (e := b) (f := 2) (by omega) (by omega)]
          exact up_congr h n _ q3
theorem MU_congr (h : Sm A B) (hu : MU A) : MU B := by
  intro e h0 h1 ht
  rw [← Sm_at h (e := e) (f := 0) (by omega) (by omega)] at ht
  exact up_congr h 5 e (hu e h0 h1 ht)
theorem lv_congr (h : Sm A B) : ∀ (n : Nat) (b : Int), upM A n b → lvM A n b = lvM B n b
  | 0, _, _ => rfl
  | n + 1, b, q => by
    simp only [upM] at q
    simp only [lvM]
    by_cases hb : b < 0
    · rw [if_pos hb, if_pos hb]
    · obtain ⟨q1, q2, q3⟩ := q.resolve_left hb
      rw [if_neg hb, if_neg hb, ← Sm_at h (e := b) (f := 2) (by omega) (by omega), lv_congr h n _ q3]
theorem ky_congr (h : Sm A B) : ∀ (n : Nat) (b p s : Int), upM A n b → kyM A n b p s = kyM B n b p s
  | 0, _, _, _, _ => rfl
  | n + 1, b, p, s, q => by
    simp only [upM] at q
    simp only [kyM]
    by_cases hb : b < 0
    · rw [if_pos hb, if_pos hb]
    · obtain ⟨q1, q2, q3⟩ := q.resolve_left hb
      rw [if_neg hb, if_neg hb, ← Sm_at h (e := b) (f := 2) (by omega) (by omega), ← Sm_at h (e := b) (f := 3) (by omega) (by omega), ky_congr h n _ _ _ q3]
theorem ke_congr (h : Sm A B) (hu : MU A) (ht : thM A e) : keM A e = keM B e := by
  have he : 0 ≤ e ∧ e < 20 := ⟨ht.1, by have := ht.2.1; omega⟩
  have hq := hu e he.1 he.2 ht.2.2
  unfold keM leM
  rw [← Sm_at h (e := e) (f := 2) he (by omega), ← lv_congr h 4 _ (MU_up hu ht).2]
  exact ky_congr h 5 e _ _ hq
theorem inW_congr (h : Sm A B) (hu : MU A) (ht : thM A e) : ∀ (k : Nat) (o : Int → Int), (∀ j : Int, 0 ≤ j → j < k → thM A (o j)) → inW A e k o = inW B e k o
  | 0, o, _ => rfl
  | k + 1, o, ho => by
    simp only [inW]
    rw [← ke_congr h hu ht, ← ke_congr h hu (ho k (by omega) (by omega))]
    split
    · refine inW_congr h hu ht k _ (fun j h0 h1 => ?_)
      rw [ups_ne _ _ (by omega)]
      exact ho j h0 (by omega)
    · rfl
theorem lw_congr (h : Sm A B) (hu : MU A) : ∀ (n : Nat) (i : Int) (y : (Int → Int) × Int), 0 ≤ y.2 → (∀ j : Int, 0 ≤ j → j < y.2 → thM A (y.1 j)) → lp (lwM A) n i y = lp (lwM B) n i y
  | 0, _, _, _, _ => rfl
  | n + 1, i, y, h0, h1 => by
    simp only [lp]
    by_cases q : thM A i
    · have e1 : lwM A i y = (inW A i y.2.toNat y.1, y.2 + 1) := if_pos q
      have e2 : lwM B i y = (inW B i y.2.toNat y.1, y.2 + 1) := if_pos ((th_congr h).mp q)
      rw [e2, ← inW_congr h hu q y.2.toNat y.1 (fun j j0 j1 => h1 j j0 (by omega)), ← e1]
      refine lw_congr h hu n (i + 1) _ (by rw [e1]; dsimp only; omega) ?_
      rw [e1]
      dsimp only
      intro j j0 j1
      exact inW_all q y.2.toNat y.1 (fun i i0 i1 => h1 i i0 (by omega)) j j0 (by omega)
    · have e1 : lwM A i y = y := if_neg q
      have e2 : lwM B i y = y := if_neg (fun r => q ((th_congr h).mpr r))
      rw [e1, e2]
      exact lw_congr h hu n (i + 1) y h0 h1
theorem wk_congr (h : Sm A B) (hu : MU A) : wkA A = wkA B := lw_congr h hu 20 0 (fun _ => 0, 0) (Int.le_refl _) (fun j h0 h1 => by dsimp only at h1; omega)
theorem TrI_congr (h : Sm A B) (hg : MG A) (hu : MU A) (hm : A 462 ≤ 20) (ht : TrI im t A) : TrI im t B := by
  obtain ⟨h1, h2, h3, h4, h5, h6⟩ := ht
  have e462 : A 462 = B 462 := h _ (by omega) (by omega)
  unfold TrI
  rw [← wk_congr h hu, ← e462]
  refine ⟨SimC_congr h hg h1, fun k k0 k1 => ?_, h3, fun i i0 i1 => ?_, h5, h6⟩
  · rw [h2 k k0 k1, h _ (by omega) (by omega)]
  · rw [h4 i i0 i1, h _ (by omega) (by omega)]
end SH
