/-! NEEDS: one bus of the reference is gathered -/
section EA
variable {A B S P D S' P' D' c c' c0 w N G N' G' τ : Int → Int} {on : Int → Bool} {e f a b k t x y v d i bu dv : Int} {l l' : List Int}
/-- gathering: what changes -/
def GaC (A : Int → Int) (k : Int) (p : Int → Prop) (y y' : zGa) : Prop := (∀ t : Int, 0 ≤ t → t < 60 → p t → y'.1 (80 * k + t) = szT A t ∧ y'.2.1 (80 * k + t) = szT A t) ∧ ∀ j : Int, (∀ t : Int, 0 ≤ t → t < 60 → p t → j ≠ 80 * k + t) → y'.1 j = y.1 j ∧ y'.2.1 j = y.2.1 j
theorem ga_ap (hd : 0 ≤ dv ∧ dv < 20) : ∀ (m : Nat) (i : Int) (y : zGa), 0 ≤ i → i + m ≤ 3 → 0 ≤ y.2.2.2 → lsO (lp (gaA A dv k) m i y).2.2.1 (lp (gaA A dv k) m i y).2.2.2 = lsO y.2.2.1 y.2.2.2 ++ (rgL i m).flatMap (fun x => if A (23 * dv + (6 + x)) = k then [3 * dv + x] else []) ∧ 0 ≤ (lp (gaA A dv k) m i y).2.2.2 ∧ GaC A k (fun t => deM t = dv ∧ i ≤ t % 3 ∧ t % 3 < i + m ∧ A (23 * dv + (6 + t % 3)) = k) y (lp (gaA A dv k) m i y)
  | 0, i, y, i0, i1, h => by
    simp only [lp, rgL, List.flatMap_nil, List.append_nil]
    exact ⟨trivial, h, fun t _ _ q => by omega, fun _ _ => ⟨rfl, rfl⟩⟩
  | m + 1, i, y, i0, i1, h => by
    simp only [lp, rgL, List.flatMap_cons]
    by_cases q : A (23 * dv + (6 + i)) = k
    · have ec : gaA A dv k i y = (ups y.1 (80 * k + (3 * dv + i)) (A (23 * dv + (9 + i))), ups y.2.1 (80 * k + (3 * dv + i)) (A (23 * dv + (9 + i))), ups y.2.2.1 y.2.2.2 (3 * dv + i), y.2.2.2 + 1) := if_pos q
      obtain ⟨h1, h2, h3, h4⟩ := ga_ap hd m (i + 1) (gaA A dv k i y) (by omega) (by omega) (by rw [ec]; dsimp only; omega)
      obtain ⟨d1, d2, d3, d4⟩ := de_ap hd.1 hd.2 i0 (show i < 3 by omega)
      refine ⟨?_, h2, fun t t0 t1 ht => ?_, fun j hj => ?_⟩
      · rw [h1, ec, if_pos q]
        dsimp only
        rw [lsO_push h, List.append_assoc]
      · by_cases r : t % 3 = i
        · have hdt : deM t = t / 3 := if_pos t1
          have et : t = 3 * dv + i := by omega
          obtain ⟨a1, a2⟩ := h4 (80 * k + t) (fun u u0 u1 hu => by
            have : u ≠ t := fun s => by
              rw [s] at hu
              omega
            omega)
          rw [a1, a2, ec]
          dsimp only
          rw [et, ups_at, ups_at]
          have : szT A (3 * dv + i) = A (23 * dv + (9 + i)) := (sz_own (A := A) hd ⟨i0, by omega⟩).1
          rw [this]
          exact ⟨rfl, rfl⟩
        · exact h3 t t0 t1 ⟨ht.1, by omega, by omega, ht.2.2.2⟩
      · obtain ⟨a1, a2⟩ := h4 j (fun u u0 u1 hu => hj u u0 u1 ⟨hu.1, by omega, by omega, hu.2.2.2⟩)
        have hne : j ≠ 80 * k + (3 * dv + i) := hj (3 * dv + i) (by omega) d4 ⟨d1, by omega, by omega, by rw [d3]; exact q⟩
        rw [a1, a2, ec]
        dsimp only
        rw [ups_ne _ _ hne, ups_ne _ _ hne]
        exact ⟨rfl, rfl⟩
    · have ec : gaA A dv k i y = y := if_neg q
      obtain ⟨h1, h2, h3, h4⟩ := ga_ap hd m (i + 1) (gaA A dv k i y) (by omega) (by omega) (by rw [ec]; exact h)
      rw [ec] at h1 h2 h3 h4 ⊢
      refine ⟨?_, h2, fun t t0 t1 ht => ?_, fun j hj => h4 j (fun u u0 u1 hu => hj u u0 u1 ⟨hu.1, by omega, by omega, hu.2.2.2⟩)⟩
      · rw [h1, if_neg q, List.nil_append]
      · refine h3 t t0 t1 ⟨ht.1, ?_, by omega, ht.2.2.2⟩
        by_cases r : t % 3 = i
        · exact absurd (by rw [← r]; exact ht.2.2.2) q
        · omega
/-- a device's things on a bus -/
def gdL (A : Int → Int) (on : Int → Bool) (S : Int → Int) (k bu e : Int) : List Int := if on e = true ∧ buM A e = bu then apsR A e k ++ (if A (23 * e + 1) = 1 ∧ S (80 * k + (60 + e)) ≠ 0 then [60 + e] else []) else []
theorem ga_dv (hM : MG A) : ∀ (m : Nat) (e : Int) (y : zGa), 0 ≤ e → e + m ≤ 20 → 0 ≤ y.2.2.2 → lsO (lp (gaD A on k bu) m e y).2.2.1 (lp (gaD A on k bu) m e y).2.2.2 = lsO y.2.2.1 y.2.2.2 ++ (rgL e m).flatMap (gdL A on y.1 k bu) ∧ 0 ≤ (lp (gaD A on k bu) m e y).2.2.2 ∧ GaC A k (fun t => (e ≤ deM t ∧ deM t < e + m) ∧ on (deM t) = true ∧ buM A (deM t) = bu ∧ t % 3 < A (23 * deM t + 5) ∧ A (23 * deM t + (6 + t % 3)) = k) y (lp (gaD A on k bu) m e y)
  | 0, e, y, e0, e1, h => by
    simp only [lp, rgL, List.flatMap_nil, List.append_nil]
    exact ⟨trivial, h, fun t _ _ q => by omega, fun _ _ => ⟨rfl, rfl⟩⟩
  | m + 1, e, y, e0, e1, h => by
    simp only [lp, rgL, List.flatMap_cons]
    have hd : 0 ≤ e ∧ e < 20 := by omega
    have h5 := MG_many hM hd
    by_cases q : on e = true ∧ buM A e = bu
    · obtain ⟨g1, g2, g3, g4⟩ := ga_ap (A := A) (k := k) hd (A (23 * e + 5)).toNat 0 y (Int.le_refl _) (by omega) h
      have eI : gaI A e k y = lp (gaA A e k) (A (23 * e + 5)).toNat 0 y := rfl
      rw [← eI] at g1 g2 g3 g4
      have hS60 : ∀ e' : Int, 0 ≤ e' → (gaI A e k y).1 (80 * k + (60 + e')) = y.1 (80 * k + (60 + e')) := fun e' h0 => (g4 _ (fun t t0 t1 _ => by omega)).1
      have ec : (gaD A on k bu e y).1 = (gaI A e k y).1 ∧ (gaD A on k bu e y).2.1 = (gaI A e k y).2.1 ∧ lsO (gaD A on k bu e y).2.2.1 (gaD A on k bu e y).2.2.2 = lsO y.2.2.1 y.2.2.2 ++ gdL A on y.1 k bu e ∧ 0 ≤ (gaD A on k bu e y).2.2.2 := by
        unfold gaD gdL
        rw [if_pos q, if_pos q, hS60 e hd.1]
        by_cases r : A (23 * e + 1) = 1 ∧ y.1 (80 * k + (60 + e)) ≠ 0
        · rw [if_pos r, if_pos r]
          dsimp only
          refine ⟨rfl, rfl, ?_, by omega⟩
          rw [lsO_push g2, g1, List.append_assoc]
          rfl
        · rw [if_neg r, if_neg r, List.append_nil]
          exact ⟨rfl, rfl, g1, g2⟩
      obtain ⟨c1, c2, c3, c4⟩ := ec
      obtain ⟨h1, h2, h3, h4⟩ := ga_dv hM m (e + 1) (gaD A on k bu e y) (by omega) (by omega) c4
      have hgd : (rgL (e + 1) m).flatMap (gdL A on (gaD A on k bu e y).1 k bu) = (rgL (e + 1) m).flatMap (gdL A on y.1 k bu) := flatMap_congr' _ (fun x hx => by
        have hx := (mem_rgL _ _ _).mp hx
        unfold gdL
        rw [c1, hS60 x (by omega)])
      refine ⟨by rw [h1, c3, hgd, List.append_assoc], h2, fun t t0 t1 ht => ?_, fun j hj => ?_⟩
      · by_cases r : deM t = e
        · obtain ⟨a1, a2⟩ := h4 (80 * k + t) (fun u u0 u1 hu => by
            have : u ≠ t := fun s => by
              rw [s] at hu
              omega
            omega)
          rw [a1, a2, c1, c2]
          have ht5 := ht.2.2.2
          rw [r] at ht5
          exact g3 t t0 t1 ⟨r, by omega, by omega, ht5.2⟩
        · exact h3 t t0 t1 ⟨by omega, ht.2⟩
      · obtain ⟨a1, a2⟩ := h4 j (fun u u0 u1 hu => hj u u0 u1 ⟨by omega, hu.2⟩)
        obtain ⟨b1, b2⟩ := g4 j (fun u u0 u1 hu => hj u u0 u1 ⟨by omega, by rw [hu.1]; exact q.1, by rw [hu.1]; exact q.2, by rw [hu.1]; omega, by rw [hu.1]; exact hu.2.2.2⟩)
        rw [a1, a2, c1, c2]
        exact ⟨b1, b2⟩
    · have ec : gaD A on k bu e y = y := if_neg q
      have hg : gdL A on y.1 k bu e = [] := if_neg q
      obtain ⟨h1, h2, h3, h4⟩ := ga_dv hM m (e + 1) (gaD A on k bu e y) (by omega) (by omega) (by rw [ec]; exact h)
      rw [ec] at h1 h2 h3 h4 ⊢
      refine ⟨by rw [h1, hg, List.nil_append], h2, fun t t0 t1 ht => h3 t t0 t1 ⟨?_, ht.2⟩, fun j hj => h4 j (fun u u0 u1 hu => hj u u0 u1 ⟨by omega, hu.2⟩)⟩
      by_cases r : deM t = e
      · exact absurd ⟨by rw [← r]; exact ht.2.1, by rw [← r]; exact ht.2.2.1⟩ q
      · omega
/-- choosing the next: the least by the number of its order -/
theorem be_sp (hM : MG A) {g : Int → Int} {n : Int} (hg : ∀ i : Int, 0 ≤ i → i < n → (0 ≤ g i ∧ g i < 80) ∧ (0 ≤ S (80 * k + g i) ∧ S (80 * k + g i) ≤ 8000000)) (hinj : ∀ i j : Int, 0 ≤ i → i < j → j < n → kyN A (fun t => S (80 * k + t)) (fun t => P (80 * k + t)) (g i) ≠ kyN A (fun t => S (80 * k + t)) (fun t => P (80 * k + t)) (g j)) : ∀ (m : Nat) (i s : Int), 1 ≤ i → i + m ≤ n → (0 ≤ s ∧ s < i) → (∀ j : Int, 0 ≤ j → j < i → j ≠ s → kyN A (fun t => S (80 * k + t)) (fun t => P (80 * k + t)) (g s) < kyN A (fun t => S (80 * k + t)) (fun t => P (80 * k + t)) (g j)) → (0 ≤ lp (beF A S P g k) m i s ∧ lp (beF A S P g k) m i s < i + m) ∧ ∀ j : Int, 0 ≤ j → j < i + m → j ≠ lp (beF A S P g k) m i s → kyN A (fun t => S (80 * k + t)) (fun t => P (80 * k + t)) (g (lp (beF A S P g k) m i s)) < kyN A (fun t => S (80 * k + t)) (fun t => P (80 * k + t)) (g j)
  | 0, i, s, h0, h1, hs, h => ⟨by simp only [lp]; omega, fun j j0 j1 hj => h j j0 (by omega) hj⟩
  | m + 1, i, s, h0, h1, hs, h => by
    simp only [lp]
    have hra : ∀ i : Int, 0 ≤ i → i < n → 0 ≤ raM A (g i) ∧ raM A (g i) ≤ 31 := fun i i0 i1 => by
      have hd := de_rg (hg i i0 i1).1
      have hsl := (hM _ hd.1 hd.2).2.2.1
      unfold raM
      split <;> omega
    have hiff : ahM A S P k (g i) (g s) ↔ kyN A (fun t => S (80 * k + t)) (fun t => P (80 * k + t)) (g i) < kyN A (fun t => S (80 * k + t)) (fun t => P (80 * k + t)) (g s) := by
      unfold kyN
      rw [ky_lt ⟨(hg i (by omega) (by omega)).2, (hg s hs.1 (by omega)).2⟩ ⟨hra i (by omega) (by omega), hra s hs.1 (by omega)⟩]
      unfold ahM
      constructor
      · intro q
        split at q
        · rename_i q1
          split at q
          · rename_i q2
            exact Or.inr ⟨q1, Or.inr ⟨q2, q⟩⟩
          · exact Or.inr ⟨q1, Or.inl q⟩
        · exact Or.inl q
      · rintro (q | ⟨q1, q | ⟨q2, q3⟩⟩)
        · have q' : P (80 * k + g s) < P (80 * k + g i) := q
          rw [if_neg (show ¬ P (80 * k + g i) = P (80 * k + g s) by omega)]
          exact q'
        · have q' : S (80 * k + g s) < S (80 * k + g i) := q
          rw [if_pos q1, if_neg (show ¬ S (80 * k + g i) = S (80 * k + g s) by omega)]
          exact q'
        · rw [if_pos q1, if_pos q2]
          exact q3
    by_cases q : ahM A S P k (g i) (g s)
    · have ec : beF A S P g k i s = i := if_pos q
      rw [ec]
      have hq := hiff.mp q
      obtain ⟨r1, r2⟩ := be_sp hM hg hinj m (i + 1) i (by omega) (by omega) (by omega) (fun j j0 j1 hj => by
        by_cases u : j = s
        · rw [u]
          exact hq
        · have := h j j0 (by omega) u
          omega)
      exact ⟨by omega, fun j j0 j1 hj => r2 j j0 (by omega) hj⟩
    · have ec : beF A S P g k i s = s := if_neg q
      rw [ec]
      have hq := mt hiff.mpr q
      obtain ⟨r1, r2⟩ := be_sp hM hg hinj m (i + 1) s (by omega) (by omega) (by omega) (fun j j0 j1 hj => by
        by_cases u : j = i
        · rw [u]
          have := hinj s i hs.1 hs.2 (by omega)
          omega
        · exact h j j0 (by omega) hj)
      exact ⟨by omega, fun j j0 j1 hj => r2 j j0 (by omega) hj⟩
end EA
