/-! NEEDS: one bus of the reference is laid -/
section EB
variable {A B S P D S' P' D' c c' c0 w N G N' G' τ : Int → Int} {on : Int → Bool} {e f a b k t x y v d i bu dv : Int} {l l' : List Int}
theorem ky_ne (h : List.Pairwise (fun x y => kyN A S P x < kyN A S P y) l) (hx : x ∈ l) (hy : y ∈ l) (hxy : x ≠ y) : kyN A S P x ≠ kyN A S P y := by
  have := pw_any (R := fun x y => kyN A S P x ≠ kyN A S P y) (fun x y h => fun q => h q.symm) l (List.Pairwise.imp (fun h => by omega) h) x hx y hy hxy
  exact this
theorem lg_sp (hM : MG A) : ∀ (n : Nat) (y : zLg) (l : List Int), List.Pairwise (fun x y => kyN A (fun t => S (80 * k + t)) (fun t => P (80 * k + t)) x < kyN A (fun t => S (80 * k + t)) (fun t => P (80 * k + t)) y) l → (∀ t, t ∈ l ↔ ∃ i : Int, 0 ≤ i ∧ i < n ∧ y.2.1 i = t) → (∀ i j : Int, 0 ≤ i → i < n → 0 ≤ j → j < n → y.2.1 i = y.2.1 j → i = j) → (∀ t ∈ l, (0 ≤ t ∧ t < 80) ∧ (0 ≤ S (80 * k + t) ∧ S (80 * k + t) ≤ 8000000)) → (lgS A S P k n y).2.2.1 = lyE (fun t => S (80 * k + t)) (fun t => P (80 * k + t)) l y.2.2.1 ∧ lyD (fun t => S (80 * k + t)) (fun t => P (80 * k + t)) (fun t => (lgS A S P k n y).1 (80 * k + t)) l y.2.2.1 ∧ (0 ≤ y.2.2.2 → (lgS A S P k n y).2.2.2 = max y.2.2.2 (lyG (fun t => P (80 * k + t)) l)) ∧ ∀ j : Int, (∀ t ∈ l, j ≠ 80 * k + t) → (lgS A S P k n y).1 j = y.1 j
  | 0, y, l, hp, hm, hi, hb => by
    have hnil : l = [] := by
      cases l with
      | nil => rfl
      | cons t l =>
        obtain ⟨i, i0, i1, -⟩ := (hm t).mp List.mem_cons_self
        omega
    rw [hnil]
    simp only [lgS, lyE, lyD, lyG]
    exact ⟨trivial, trivial, fun h => by omega, fun _ _ => trivial⟩
  | n + 1, y, l, hp, hm, hi, hb => by
    have hin : ∀ i : Int, 0 ≤ i → i < (n : Int) + 1 → y.2.1 i ∈ l := fun i i0 i1 => (hm _).mpr ⟨i, i0, by omega, rfl⟩
    obtain ⟨b1, b2⟩ := be_sp (P := P) (g := y.2.1) (n := (n : Int) + 1) hM (fun i i0 i1 => hb _ (hin i i0 i1)) (fun i j i0 ij j1 => ky_ne hp (hin i i0 (by omega)) (hin j (by omega) j1) (fun q => by
      have := hi i j i0 (by omega) (by omega) (by omega) q
      omega)) n 1 0 (Int.le_refl _) (by omega) (by omega) (fun j j0 j1 hj => by omega)
    have eb : beB A S P y.2.1 k ((n : Nat) + 1) = lp (beF A S P y.2.1 k) n 1 0 := by
      unfold beB
      rw [show ((n : Int) + 1 - 1).toNat = n by omega]
    rw [← eb] at b1 b2
    have el : lgS A S P k (n + 1) y = lgS A S P k n (ups y.1 (80 * k + y.2.1 (beB A S P y.2.1 k ((n : Nat) + 1))) (rupM y.2.2.1 (P (80 * k + y.2.1 (beB A S P y.2.1 k ((n : Nat) + 1))))), ups y.2.1 (beB A S P y.2.1 k ((n : Nat) + 1)) (y.2.1 (n : Nat)), rupM y.2.2.1 (P (80 * k + y.2.1 (beB A S P y.2.1 k ((n : Nat) + 1)))) + S (80 * k + y.2.1 (beB A S P y.2.1 k ((n : Nat) + 1))), if y.2.2.2 < P (80 * k + y.2.1 (beB A S P y.2.1 k ((n : Nat) + 1))) then P (80 * k + y.2.1 (beB A S P y.2.1 k ((n : Nat) + 1))) else y.2.2.2) := rfl
    rw [el]
    generalize beB A S P y.2.1 k ((n : Nat) + 1) = b at *
    have hbl := hin b b1.1 (by omega)
    cases l with
    | nil => exact absurd hbl List.not_mem_nil
    | cons u l =>
      obtain ⟨p1, p2⟩ := List.pairwise_cons.mp hp
      have hu : u = y.2.1 b := by
        refine Decidable.byContradiction fun q => ?_
        obtain ⟨i, i0, i1, i2⟩ := (hm u).mp List.mem_cons_self
        have h1 := b2 i i0 (by omega) (fun r => q (by rw [← i2, r]))
        rw [i2] at h1
        rcases List.mem_cons.mp hbl with r | r
        · exact q r.symm
        · have := p1 _ r
          omega
      subst hu
      have hnin : y.2.1 b ∉ l := fun q => by
        have := p1 _ q
        omega
      have hm' : ∀ t, t ∈ l ↔ ∃ i : Int, 0 ≤ i ∧ i < (n : Int) ∧ ups y.2.1 b (y.2.1 (n : Nat)) i = t := fun t => by
        constructor
        · intro ht
          obtain ⟨i, i0, i1, i2⟩ := (hm t).mp (List.mem_cons_of_mem _ ht)
          have hib : i ≠ b := fun q => hnin (by rw [← q, i2]; exact ht)
          by_cases q : i = (n : Int)
          · exact ⟨b, b1.1, by omega, by rw [ups_at, ← q]; exact i2⟩
          · exact ⟨i, i0, by omega, by rw [ups_ne _ _ hib]; exact i2⟩
        · rintro ⟨i, i0, i1, i2⟩
          have hmem : t ∈ y.2.1 b :: l ∧ t ≠ y.2.1 b := by
            by_cases q : i = b
            · rw [q, ups_at] at i2
              rw [← i2]
              exact ⟨hin n (by omega) (by omega), fun r => by
                have := hi n b (by omega) (by omega) b1.1 (by omega) r
                omega⟩
            · rw [ups_ne _ _ q] at i2
              rw [← i2]
              exact ⟨hin i i0 (by omega), fun r => q (hi i b i0 (by omega) b1.1 (by omega) r)⟩
          rcases List.mem_cons.mp hmem.1 with r | r
          · exact absurd r hmem.2
          · exact r
      have hi' : ∀ i j : Int, 0 ≤ i → i < (n : Int) → 0 ≤ j → j < (n : Int) → ups y.2.1 b (y.2.1 (n : Nat)) i = ups y.2.1 b (y.2.1 (n : Nat)) j → i = j := fun i j i0 i1 j0 j1 h => by
        by_cases q1 : i = b
        · by_cases q2 : j = b
          · omega
          · rw [q1, ups_at, ups_ne _ _ q2] at h
            have := hi n j (by omega) (by omega) j0 (by omega) h
            omega
        · by_cases q2 : j = b
          · rw [q2, ups_at, ups_ne _ _ q1] at h
            have := hi i n i0 (by omega) (by omega) (by omega) h
            omega
          · rw [ups_ne _ _ q1, ups_ne _ _ q2] at h
            exact hi i j i0 (by omega) j0 (by omega) h
      obtain ⟨h1, h2, h3, h4⟩ := lg_sp hM n (ups y.1 (80 * k + y.2.1 b) (rupM y.2.2.1 (P (80 * k + y.2.1 b))), ups y.2.1 b (y.2.1 (n : Nat)), rupM y.2.2.1 (P (80 * k + y.2.1 b)) + S (80 * k + y.2.1 b), if y.2.2.2 < P (80 * k + y.2.1 b) then P (80 * k + y.2.1 b) else y.2.2.2) l p2 hm' hi' (fun t ht => hb t (List.mem_cons_of_mem _ ht))
      simp only [lyE, lyD, lyG]
      refine ⟨h1, ⟨?_, h2⟩, fun h0 => ?_, fun j hj => ?_⟩
      · rw [h4 _ (fun t ht q => hnin (by
          have : y.2.1 b = t := by omega
          rw [this]
          exact ht))]
        exact ups_at ..
      · have hg := (lyG_ge (P := fun t => P (80 * k + t)) l).2.1
        rw [h3 (by dsimp only; split <;> omega)]
        dsimp only
        split <;> omega
      · rw [h4 j (fun t ht => hj t (List.mem_cons_of_mem _ ht))]
        exact ups_ne _ _ (hj _ List.mem_cons_self)
end EB
