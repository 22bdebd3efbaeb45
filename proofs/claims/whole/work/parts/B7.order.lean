/-! ORDERING A SHELF: what comes out -/
section BR
variable {im X Y : zM} {c c' s sp A B w w' T : Int → Int} {e f a b x y d k m n u un st bg en bu v sz ad : Int} {z z0 : zSS} {p q r : Int → Bool}
/-- what stands at a place of a shelf -/
def rowZ (z : zSS) (i : Int) : zTh := (z.1 i, z.2.1 i, z.2.2.1 i, z.2.2.2.1 i, z.2.2.2.2.1 i)
/-- of greater align, then of greater size, then by where they stood -/
def lt3 (al sz : Int → Int) (a b : Int) : Prop := al b < al a ∨ (al a = al b ∧ (sz b < sz a ∨ (sz a = sz b ∧ a < b)))
theorem lt3_trans {al sz : Int → Int} (h : lt3 al sz a b) (h' : lt3 al sz b x) : lt3 al sz a x := by
  unfold lt3 at *
  omega
theorem rowZ_sw {j : Int} (i : Int) : rowZ (sw5 z j) i = if i = j - 1 then rowZ z j else if i = j then rowZ z (j - 1) else rowZ z i := by
  unfold rowZ sw5
  dsimp only
  rw [swf_cases, swf_cases, swf_cases, swf_cases, swf_cases]
  split
  · rfl
  · split <;> rfl
/-- a shelf whose places were changed about -/
def Prm (z0 z : zSS) (τ : Int → Int) (N : Int) : Prop := (∀ i : Int, 0 ≤ i → i < N → rowZ z i = rowZ z0 (τ i) ∧ 0 ≤ τ i ∧ τ i < N) ∧ (∀ a : Int, 0 ≤ a → a < N → ∃ i : Int, 0 ≤ i ∧ i < N ∧ τ i = a) ∧ z.2.2.2.2.2 = z0.2.2.2.2.2
def swT (τ : Int → Int) (j : Int) : Int → Int := fun i => if i = j - 1 then τ j else if i = j then τ (j - 1) else τ i
theorem Prm_sw {τ : Int → Int} {N j : Int} (h : Prm z0 z τ N) (hj : 0 < j ∧ j < N) : Prm z0 (sw5 z j) (swT τ j) N := by
  obtain ⟨h1, h2, h3⟩ := h
  refine ⟨fun i i0 i1 => ?_, fun a a0 a1 => ?_, h3⟩
  · rw [rowZ_sw]
    unfold swT
    by_cases c1 : i = j - 1
    · rw [if_pos c1, if_pos c1]
      exact h1 j (by omega) hj.2
    · rw [if_neg c1, if_neg c1]
      by_cases c2 : i = j
      · rw [if_pos c2, if_pos c2]
        exact h1 (j - 1) (by omega) (by omega)
      · rw [if_neg c2, if_neg c2]
        exact h1 i i0 i1
  · obtain ⟨i, i0, i1, i2⟩ := h2 a a0 a1
    by_cases c1 : i = j
    · refine ⟨j - 1, by omega, by omega, ?_⟩
      unfold swT
      rw [if_pos rfl, ← c1]
      exact i2
    · by_cases c2 : i = j - 1
      · refine ⟨j, by omega, hj.2, ?_⟩
        unfold swT
        rw [if_neg (by omega), if_pos rfl, ← c2]
        exact i2
      · refine ⟨i, i0, i1, ?_⟩
        unfold swT
        rw [if_neg c2, if_neg c1]
        exact i2
theorem row_al {i : Int} {z0 z : zSS} {a : Int} (h : rowZ z i = rowZ z0 a) : z.2.2.1 i = z0.2.2.1 a ∧ z.2.2.2.1 i = z0.2.2.2.1 a := by
  unfold rowZ at h
  simp only [Prod.mk.injEq] at h
  exact ⟨h.2.2.1, h.2.2.2.1⟩
/-- one is put in -/
theorem ordI_sp {N k : Int} (hk : k < N) : ∀ (j : Nat) (z : zSS) (τ : Int → Int), Prm z0 z τ N → (j : Int) ≤ k → (∀ i : Int, k < i → i < N → τ i = i) → τ j = k → (∀ a b : Int, 0 ≤ a → a < b → b ≤ k → a ≠ j → b ≠ j → lt3 z0.2.2.1 z0.2.2.2.1 (τ a) (τ b)) → (∀ b : Int, (j : Int) < b → b ≤ k → lt3 z0.2.2.1 z0.2.2.2.1 k (τ b)) → (∀ a : Int, 0 ≤ a → a ≤ k → a ≠ j → τ a < k) → ∃ τ', Prm z0 (ordI j z) τ' N ∧ (∀ i : Int, k < i → i < N → τ' i = i) ∧ (∀ a b : Int, 0 ≤ a → a < b → b ≤ k → lt3 z0.2.2.1 z0.2.2.2.1 (τ' a) (τ' b)) ∧ (∀ a : Int, 0 ≤ a → a ≤ k → τ' a ≤ k)
  | 0, z, τ, h1, h2, h3, h4, h5, h6, h7 => by
    refine ⟨τ, h1, h3, fun a b a0 ab bk => ?_, fun a a0 ak => ?_⟩
    · by_cases c : a = 0
      · rw [c]
        have : τ 0 = k := h4
        rw [this]
        exact h6 b (by omega) bk
      · exact h5 a b a0 ab bk (by omega) (by omega)
    · by_cases c : a = 0
      · rw [c]
        have : τ 0 = k := h4
        omega
      · have := h7 a a0 ak (by omega)
        omega
  | j + 1, z, τ, h1, h2, h3, h4, h5, h6, h7 => by
    simp only [ordI]
    have r0 := row_al (h1.1 j (by omega) (by omega)).1
    have r1 := row_al (h1.1 ((j : Int) + 1) (by omega) (by omega)).1
    have h4' : τ ((j : Int) + 1) = k := h4
    rw [h4'] at r1
    have hlt := h7 j (by omega) (by omega) (by omega)
    by_cases c : z.2.2.1 (j : Nat) < z.2.2.1 ((j : Nat) + 1) ∨ (z.2.2.1 ((j : Nat) + 1) = z.2.2.1 (j : Nat) ∧ z.2.2.2.1 (j : Nat) < z.2.2.2.1 ((j : Nat) + 1))
    · rw [if_pos c]
      have hah : lt3 z0.2.2.1 z0.2.2.2.1 k (τ j) := by
        unfold lt3
        omega
      refine ordI_sp hk j _ (swT τ ((j : Int) + 1)) (Prm_sw h1 ⟨by omega, by omega⟩) (by omega) (fun i i0 i1 => ?_) ?_ (fun a b a0 ab bk na nb => ?_) (fun b b0 bk => ?_) (fun a a0 ak na => ?_)
      · unfold swT
        rw [if_neg (by omega), if_neg (by omega)]
        exact h3 i i0 i1
      · unfold swT
        rw [if_pos (by omega)]
        exact h4'
      · unfold swT
        rw [if_neg (show ¬ a = (j : Int) + 1 - 1 by omega), if_neg (show ¬ b = (j : Int) + 1 - 1 by omega)]
        by_cases ca : a = (j : Int) + 1
        · rw [if_pos ca, if_neg (by omega), show (j : Int) + 1 - 1 = j by omega]
          exact h5 j b (by omega) (by omega) bk (by omega) (by omega)
        · rw [if_neg ca]
          by_cases cb : b = (j : Int) + 1
          · rw [if_pos cb, show (j : Int) + 1 - 1 = j by omega]
            exact h5 a j a0 (by omega) (by omega) (by omega) (by omega)
          · rw [if_neg cb]
            exact h5 a b a0 ab bk (by omega) (by omega)
      · unfold swT
        rw [if_neg (show ¬ b = (j : Int) + 1 - 1 by omega)]
        by_cases cb : b = (j : Int) + 1
        · rw [if_pos cb, show (j : Int) + 1 - 1 = j by omega]
          exact hah
        · rw [if_neg cb]
          exact h6 b (by omega) bk
      · unfold swT
        rw [if_neg (show ¬ a = (j : Int) + 1 - 1 by omega)]
        by_cases ca : a = (j : Int) + 1
        · rw [if_pos ca, show (j : Int) + 1 - 1 = j by omega]
          exact hlt
        · rw [if_neg ca]
          exact h7 a a0 ak (by omega)
    · rw [if_neg c]
      have hah : lt3 z0.2.2.1 z0.2.2.2.1 (τ j) k := by
        unfold lt3
        omega
      refine ⟨τ, h1, h3, fun a b a0 ab bk => ?_, fun a a0 ak => ?_⟩
      · by_cases ca : a = (j : Int) + 1
        · rw [ca, h4']
          exact h6 b (by omega) bk
        · by_cases cb : b = (j : Int) + 1
          · rw [cb, h4']
            by_cases cj : a = (j : Int)
            · rw [cj]
              exact hah
            · exact lt3_trans (h5 a j a0 (by omega) (by omega) (by omega) (by omega)) hah
          · exact h5 a b a0 ab bk (by omega) (by omega)
      · by_cases ca : a = (j : Int) + 1
        · rw [ca, h4']
          omega
        · have := h7 a a0 ak (by omega)
          omega
theorem ordL_sp {N : Int} : ∀ (m : Nat) (k : Int) (z : zSS) (τ : Int → Int), 1 ≤ k → k + m = max N 1 → Prm z0 z τ N → (∀ i : Int, k ≤ i → i < N → τ i = i) → (∀ a b : Int, 0 ≤ a → a < b → b < k → b < N → lt3 z0.2.2.1 z0.2.2.2.1 (τ a) (τ b)) → (∀ a : Int, 0 ≤ a → a < k → a < N → τ a < k) → ∃ τ', Prm z0 (lp ordf m k z) τ' N ∧ ∀ a b : Int, 0 ≤ a → a < b → b < N → lt3 z0.2.2.1 z0.2.2.2.1 (τ' a) (τ' b)
  | 0, k, z, τ, k1, km, h1, h2, h3, h4 => ⟨τ, h1, fun a b a0 ab bN => h3 a b a0 ab (by omega) bN⟩
  | m + 1, k, z, τ, k1, km, h1, h2, h3, h4 => by
    simp only [lp]
    have hkN : k < N := by omega
    have hk' : ((k.toNat : Nat) : Int) = k := by omega
    obtain ⟨τ', g1, g2, g3, g4⟩ := ordI_sp (z0 := z0) hkN k.toNat z τ h1 (by omega) (fun i i0 i1 => h2 i (by omega) i1) (by rw [hk']; exact h2 k (Int.le_refl _) hkN) (fun a b a0 ab bk na nb => h3 a b a0 ab (by omega) (by omega)) (fun b b0 bk => by omega) (fun a a0 ak na => h4 a a0 (by omega) (by omega))
    exact ordL_sp m (k + 1) (ordf k z) τ' (by omega) (by omega) g1 (fun i i0 i1 => g2 i (by omega) i1) (fun a b a0 ab bk bN => g3 a b a0 ab (by omega)) (fun a a0 ak aN => by have := g4 a a0 (by omega); omega)
/-- a shelf in order -/
theorem ord_sp (z : zSS) (h0 : 0 ≤ z.2.2.2.2.2) (h1 : z.2.2.2.2.2 ≤ 27) : ∃ τ, Prm z (ordS z) τ z.2.2.2.2.2 ∧ ∀ a b : Int, 0 ≤ a → a < b → b < z.2.2.2.2.2 → lt3 z.2.2.1 z.2.2.2.1 (τ a) (τ b) := by
  unfold ordS
  exact ordL_sp (z0 := z) (N := z.2.2.2.2.2) _ 1 z id (by omega) (by omega) ⟨fun i i0 i1 => ⟨rfl, i0, i1⟩, fun a a0 a1 => ⟨a, a0, a1, rfl⟩, rfl⟩ (fun _ _ _ => rfl) (fun a b a0 ab b1 bN => by omega) (fun a a0 a1 aN => by simp only [id]; omega)
/-- stretches apart within a window take no more than it has -/
theorem sum_le (l : List (Int × Int)) (hw : bg ≤ en) (h1 : List.Pairwise (fun p q => p.1 + p.2 ≤ q.1 ∨ q.1 + q.2 ≤ p.1) l) (h2 : ∀ p ∈ l, bg ≤ p.1 ∧ p.1 + p.2 ≤ en ∧ 0 ≤ p.2) : smL (fun p => p.2) l ≤ en - bg := by
  have hle1 : ∀ (u : Int) (l : List (Int × Int)), List.Pairwise (fun p q => p.1 + p.2 ≤ q.1 ∨ q.1 + q.2 ≤ p.1) l → smL (cvP u) l ≤ 1 := by
    intro u l
    induction l with
    | nil =>
      intro _
      simp only [smL]
      omega
    | cons x l ih =>
      intro h
      obtain ⟨a1, a2⟩ := List.pairwise_cons.mp h
      simp only [smL]
      have := ih a2
      by_cases q : x.1 ≤ u ∧ u < x.1 + x.2
      · have e1 : cvP u x = 1 := if_pos q
        have e2 : smL (cvP u) l = 0 := smL_0 l (fun t ht => by
          have := a1 t ht
          unfold cvP
          rw [if_neg (by omega)])
        rw [e1, e2]
        omega
      · have e1 : cvP u x = 0 := if_neg q
        rw [e1]
        omega
  have e1 : smL (fun p => p.2) l = smL (fun p => smL (fun v => cvP v p) (rgL bg (en - bg).toNat)) l := smL_congr l (fun p hp => by
    have := h2 p hp
    rw [cv_in _ _ this.2.2]
    omega)
  rw [e1, ← smL_swap]
  have key : ∀ (m : Nat) (i : Int), smL (fun v => smL (fun p => cvP v p) l) (rgL i m) ≤ m := by
    intro m
    induction m with
    | zero =>
      intro i
      simp only [rgL, smL]
      omega
    | succ m ih =>
      intro i
      simp only [rgL, smL]
      have := ih (i + 1)
      have : smL (fun p => cvP i p) l ≤ 1 := hle1 i l h1
      omega
  have := key (en - bg).toNat bg
  omega
end BR
