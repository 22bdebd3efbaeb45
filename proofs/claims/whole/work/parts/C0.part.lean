/-! THE CLASS'S PLACER: what is parted, and laid down -/
section CA
variable {im X Y : zM} {c c' s sp A B w w' T : Int → Int} {e f a b x y d k m n u un st bg en bu v sz ad dv nt i : Int} {z z0 M L : zSS} {p q r : Int → Bool}
theorem map_rg_inj2 {β : Type} {o o' : Int → β} : ∀ (m : Nat) (i : Int), (rgL i m).map o = (rgL i m).map o' → ∀ j : Int, i ≤ j → j < i + m → o j = o' j
  | 0, i, _, j, h0, h1 => by omega
  | m + 1, i, h, j, h0, h1 => by
    simp only [rgL, List.map_cons, List.cons.injEq] at h
    by_cases q : j = i
    · rw [q]
      exact h.1
    · exact map_rg_inj2 m (i + 1) h.2 j (by omega) (by omega)
theorem shL_row (z : zSS) : shL z = (rgL 0 z.2.2.2.2.2.toNat).map (rowZ z) := rfl
theorem shL_adf (h0 : 0 ≤ z.2.2.2.2.2) (h1 : z.2.2.2.2.2 < 27) (hi : 0 ≤ i ∧ i < M.2.2.2.2.2) (hM : M.2.2.2.2.2 ≤ 27) : shL (adfS z M i) = shL z ++ [rowZ M i] ∧ (adfS z M i).2.2.2.2.2 = z.2.2.2.2.2 + 1 := by
  unfold adfS
  rw [if_pos ⟨hi.1, hi.2, by omega⟩]
  exact shL_add h0 h1
theorem filter_flat {α : Type} (p : α → Bool) : ∀ l : List α, l.filter p = l.flatMap (fun x => if p x = true then [x] else [])
  | [] => rfl
  | x :: l => by
    rw [List.filter_cons, List.flatMap_cons, filter_flat p l]
    split <;> rfl
theorem flat_le {α : Type} {h : Int → List α} : ∀ (m : Nat) (i : Int), (∀ j, (h j).length ≤ 1) → ((rgL i m).flatMap h).length ≤ m
  | 0, i, _ => by simp [rgL]
  | m + 1, i, hh => by
    rw [rgL, List.flatMap_cons, List.length_append]
    have := hh i
    have := flat_le m (i + 1) hh
    omega
/-- what may move of a bus -/
theorem sh_tk (h0 : 0 ≤ z.2.2.2.2.2) (h1 : z.2.2.2.2.2 ≤ 27) : shL (tkM z M) = (shL z).filter (fun p => decide (p.2.1 ≠ -1)) ∧ 0 ≤ (tkM z M).2.2.2.2.2 ∧ (tkM z M).2.2.2.2.2 ≤ z.2.2.2.2.2 := by
  have hlen := flat_le (h := fun i => if z.2.1 i = -1 then [] else [rowZ z i]) z.2.2.2.2.2.toNat 0 (fun j => by
    split <;> simp)
  have := shL_lp (f := tkf z) (g := fun i => if z.2.1 i = -1 then [] else [rowZ z i]) z.2.2.2.2.2.toNat 0 (clrS M) (fun j j0 j1 Z hZ hl => by
    unfold tkf
    by_cases q : z.2.1 j = -1
    · rw [if_pos q, if_pos q]
      simp only [List.append_nil, List.length_nil]
      exact ⟨trivial, by omega⟩
    · rw [if_neg q] at hl ⊢
      rw [if_neg q]
      simp only [List.length_cons, List.length_nil] at hl ⊢
      obtain ⟨a1, a2⟩ := shL_adf (z := Z) (M := z) (i := j) hZ (by omega) ⟨j0, by omega⟩ h1
      exact ⟨a1, by omega⟩) (Int.le_refl _) (by
    show (0 : Int) + _ ≤ 27
    omega)
  unfold tkM
  rw [show min z.2.2.2.2.2 27 = z.2.2.2.2.2 by omega]
  rw [shL_clr, List.nil_append] at this
  have e0 : (clrS M).2.2.2.2.2 = 0 := rfl
  rw [e0] at this
  refine ⟨?_, by omega, by omega⟩
  rw [this.1, shL_row, filter_flat, map_flatMap']
  refine flatMap_congr' _ (fun i _ => ?_)
  have e1 : (rowZ z i).2.1 = z.2.1 i := rfl
  rw [e1]
  by_cases q : z.2.1 i = -1
  · rw [if_pos q, if_neg (by simp [q])]
  · rw [if_neg q, if_pos (by simp [q])]
/-- what does not move: windows -/
theorem sh_tuf (h0 : 0 ≤ z.2.2.2.2.2) (h1 : z.2.2.2.2.2 ≤ 27) : shL (lp (tuf z) (min z.2.2.2.2.2 27).toNat 0 (clrS M)) = (shL z).filter (fun p => decide (p.2.1 = -1)) ∧ 0 ≤ (lp (tuf z) (min z.2.2.2.2.2 27).toNat 0 (clrS M)).2.2.2.2.2 ∧ (lp (tuf z) (min z.2.2.2.2.2 27).toNat 0 (clrS M)).2.2.2.2.2 ≤ z.2.2.2.2.2 := by
  have hlen := flat_le (h := fun i => if z.2.1 i = -1 then [rowZ z i] else []) z.2.2.2.2.2.toNat 0 (fun j => by
    split <;> simp)
  have := shL_lp (f := tuf z) (g := fun i => if z.2.1 i = -1 then [rowZ z i] else []) z.2.2.2.2.2.toNat 0 (clrS M) (fun j j0 j1 Z hZ hl => by
    unfold tuf
    by_cases q : z.2.1 j = -1
    · rw [if_pos q] at hl ⊢
      rw [if_pos q]
      simp only [List.length_cons, List.length_nil] at hl ⊢
      obtain ⟨a1, a2⟩ := shL_adf (z := Z) (M := z) (i := j) hZ (by omega) ⟨j0, by omega⟩ h1
      exact ⟨a1, by omega⟩
    · rw [if_neg q, if_neg q]
      simp only [List.append_nil, List.length_nil]
      exact ⟨trivial, by omega⟩) (Int.le_refl _) (by
    show (0 : Int) + _ ≤ 27
    omega)
  rw [show min z.2.2.2.2.2 27 = z.2.2.2.2.2 by omega]
  rw [shL_clr, List.nil_append] at this
  have e0 : (clrS M).2.2.2.2.2 = 0 := rfl
  rw [e0] at this
  refine ⟨?_, by omega, by omega⟩
  rw [this.1, shL_row, filter_flat, map_flatMap']
  refine flatMap_congr' _ (fun i _ => ?_)
  have e1 : (rowZ z i).2.1 = z.2.1 i := rfl
  rw [e1]
  by_cases q : z.2.1 i = -1
  · rw [if_pos q, if_pos (by simp [q])]
  · rw [if_neg q, if_neg (by simp [q])]
/-- whether a place is chosen -/
def Cho (ch : Int → Int) (len i : Int) : Bool := decide ((0 < len ∧ ch 0 = i) ∨ (1 < len ∧ ch 1 = i) ∨ (2 < len ∧ ch 2 = i))
theorem cho_iff {ch : Int → Int} {len : Int} (hl : 0 ≤ len ∧ len ≤ 3) : Cho ch len i = true ↔ ∃ j : Int, 0 ≤ j ∧ j < len ∧ ch j = i := by
  unfold Cho
  rw [decide_eq_true_eq]
  constructor
  · rintro (h | h | h)
    · exact ⟨0, by omega, h.1, h.2⟩
    · exact ⟨1, by omega, h.1, h.2⟩
    · exact ⟨2, by omega, h.1, h.2⟩
  · rintro ⟨j, j0, j1, j2⟩
    rcases (show j = 0 ∨ j = 1 ∨ j = 2 by omega) with rfl | rfl | rfl
    · exact Or.inl ⟨j1, j2⟩
    · exact Or.inr (Or.inl ⟨j1, j2⟩)
    · exact Or.inr (Or.inr ⟨j1, j2⟩)
theorem tu2_loop {ch : Int → Int} {len : Int} (hl : 0 ≤ len ∧ len ≤ 3) (hM : M.2.2.2.2.2 ≤ 27) (hch : ∀ j : Int, 0 ≤ j → j < len → ch j < M.2.2.2.2.2) (hinc : ∀ a b : Int, 0 ≤ a → a < b → b < len → ch a < ch b) : ∀ (m : Nat) (i : Int) (y : Int × zSS × zSS), 0 ≤ i → i + m = M.2.2.2.2.2 → (0 ≤ y.1 ∧ y.1 ≤ len) → (∀ j : Int, 0 ≤ j → j < y.1 → ch j < i) → (∀ j : Int, y.1 ≤ j → j < len → i ≤ ch j) → 0 ≤ y.2.1.2.2.2.2.2 → y.2.1.2.2.2.2.2 + m ≤ 27 → 0 ≤ y.2.2.2.2.2.2.2 → y.2.2.2.2.2.2.2 + (len - y.1) ≤ 27 → shL (lp (tu2 M ch len) m i y).2.1 = shL y.2.1 ++ ((rgL i m).filter (fun j => !Cho ch len j)).map (rowZ M) ∧ shL (lp (tu2 M ch len) m i y).2.2 = shL y.2.2 ++ (rgL y.1 (len - y.1).toNat).map (fun j => rowZ M (ch j)) ∧ (0 ≤ (lp (tu2 M ch len) m i y).2.1.2.2.2.2.2 ∧ (lp (tu2 M ch len) m i y).2.1.2.2.2.2.2 = y.2.1.2.2.2.2.2 + m - (len - y.1)) ∧ (lp (tu2 M ch len) m i y).2.2.2.2.2.2.2 = y.2.2.2.2.2.2.2 + (len - y.1)
  | 0, i, y, i0, i1, h1, h2, h3, s0, s1, l0, l1 => by
    have hd : y.1 = len := by
      by_cases q : y.1 = len
      · exact q
      · have := h3 y.1 (Int.le_refl _) (by omega)
        have := hch y.1 h1.1 (by omega)
        omega
    rw [hd, show len - len = 0 by omega]
    simp only [lp, rgL, List.filter_nil, List.map_nil, List.append_nil]
    refine ⟨trivial, ?_, by omega, by omega⟩
    simp [rgL]
  | m + 1, i, y, i0, i1, h1, h2, h3, s0, s1, l0, l1 => by
    simp only [lp]
    by_cases q : y.1 < len ∧ y.1 < 3 ∧ ch y.1 = i
    · have ec : tu2 M ch len i y = (y.1 + 1, y.2.1, adfS y.2.2 M i) := if_pos q
      obtain ⟨a1, a2⟩ := shL_adf (z := y.2.2) (M := M) (i := i) l0 (by omega) ⟨i0, by omega⟩ hM
      have ih := tu2_loop hl hM hch hinc m (i + 1) (y.1 + 1, y.2.1, adfS y.2.2 M i) (by omega) (by omega) (by dsimp only; omega) (fun j j0 j1 => by
        dsimp only at j1
        by_cases hj : j = y.1
        · rw [hj]
          omega
        · have := h2 j j0 (by omega)
          omega) (fun j j0 j1 => by
        dsimp only at j0
        have := hinc y.1 j h1.1 (by omega) j1
        omega) (by dsimp only; omega) (by dsimp only; omega) (by dsimp only; omega) (by dsimp only; omega)
      rw [ec]
      dsimp only at ih
      obtain ⟨b1, b2, b3, b4⟩ := ih
      refine ⟨?_, ?_, by omega, by omega⟩
      · rw [b1, rgL, List.filter_cons, (cho_iff hl).mpr ⟨y.1, h1.1, q.1, q.2.2⟩]
        simp
      · rw [b2, a1, List.append_assoc, show (len - y.1).toNat = (len - (y.1 + 1)).toNat + 1 by omega, rgL, List.map_cons, q.2.2]
        rfl
    · have ec : tu2 M ch len i y = (y.1, adfS y.2.1 M i, y.2.2) := if_neg q
      obtain ⟨a1, a2⟩ := shL_adf (z := y.2.1) (M := M) (i := i) s0 (by omega) ⟨i0, by omega⟩ hM
      have hnc : Cho ch len i = false := Bool.eq_false_iff.mpr (fun hc => by
        obtain ⟨j, j0, j1, j2⟩ := (cho_iff hl).mp hc
        by_cases hj : j < y.1
        · have := h2 j j0 hj
          omega
        · by_cases hj2 : j = y.1
          · exact q ⟨by omega, by omega, by rw [← hj2]; exact j2⟩
          · have := hinc y.1 j h1.1 (by omega) j1
            have := h3 y.1 (Int.le_refl _) (by omega)
            omega)
      have ih := tu2_loop hl hM hch hinc m (i + 1) (y.1, adfS y.2.1 M i, y.2.2) (by omega) (by omega) h1 (fun j j0 j1 => by
        have := h2 j j0 j1
        omega) (fun j j0 j1 => by
        dsimp only at j0
        have h4 := h3 j j0 j1
        by_cases hj : ch j = i
        · exfalso
          have : Cho ch len i = true := (cho_iff hl).mpr ⟨j, by omega, j1, hj⟩
          rw [hnc] at this
          exact absurd this (by decide)
        · omega) (by dsimp only; omega) (by dsimp only; omega) l0 l1
      rw [ec]
      dsimp only at ih
      obtain ⟨b1, b2, b3, b4⟩ := ih
      refine ⟨?_, b2, by omega, by omega⟩
      rw [b1, a1, List.append_assoc, rgL, List.filter_cons, hnc]
      simp
/-- laid down one after another: the class -/
theorem ld_run {h : Int → Int} (hbg : 0 ≤ bg ∧ bg ≤ 1024 ∧ en ≤ 1024) : ∀ (m : Nat) (i : Int) (y : zSS × zSS) (l : List (Int × Int)) (τ : Int → Int), SmSt y.1 l → y.1.2.2.2.2.2 + m ≤ 27 → 0 ≤ i → i + m = y.2.2.2.2.2.2 → y.2.2.2.2.2.2 ≤ 27 → (∀ j : Int, i ≤ j → j < i + m → y.2.2.2.2.1 j = h (τ j)) → (∀ j : Int, i ≤ j → j < i + m → ∃ n : Nat, n ≤ 8 ∧ h (τ j) = 2 ^ n) → ((ldS bg en m i y).1 = 0 ∧ PlF bg en h l ((rgL i m).map τ)) ∨ ((ldS bg en m i y).1 = 1 ∧ PlO bg en h l ((rgL i m).map τ) ((rgL i m).map (ldS bg en m i y).2.2.2.2.2.2.1) ∧ ((ldS bg en m i y).2.2.1 = y.2.1 ∧ (ldS bg en m i y).2.2.2.1 = y.2.2.1 ∧ (ldS bg en m i y).2.2.2.2.2.2.2 = y.2.2.2.2.2.2) ∧ ∀ j : Int, j < i → (ldS bg en m i y).2.2.2.2.2.2.1 j = y.2.2.2.2.2.1 j)
  | 0, i, y, l, τ, hS, hc, h0, h1, h2, h3, h4 => by
    simp only [ldS, rgL, List.map_nil]
    exact Or.inr ⟨trivial, rfl, ⟨trivial, trivial, trivial⟩, fun _ _ => trivial⟩
  | m + 1, i, y, l, τ, hS, hc, h0, h1, h2, h3, h4 => by
    obtain ⟨e, e1, e2⟩ := h4 i (Int.le_refl _) (by omega)
    have hsz := h3 i (Int.le_refl _) (by omega)
    have hpw := pow_le8 e e1
    rw [e2] at hsz
    have hlo := lowS_sp (un := 2 ^ e) (bg := bg) (en := en) (n := e) (by omega) hS.1.1 hS.1.2 (SmSt_bd hS) ⟨hbg.1, by omega⟩
    have hlo' : LowSp (FreL l (2 ^ e)) bg en (2 ^ e) (2 ^ e) (lowS y.1 (2 ^ e) (2 ^ e) bg en) := by
      rcases hlo with ⟨a1, a2⟩ | ⟨a1, a2, a3, a4, a5⟩
      · exact Or.inl ⟨a1, fun u u0 u1 u2 hf => a2 u u0 u1 u2 ((SmSt_fre hS).mpr hf)⟩
      · exact Or.inr ⟨a1, a2, a3, (SmSt_fre hS).mp a4, fun u u0 u1 u2 hf => a5 u u0 u1 u2 ((SmSt_fre hS).mpr hf)⟩
    have hcs := LowSp_cases hbg.1 hlo'
    simp only [ldS, rgL, List.map_cons]
    rw [hsz]
    generalize hr : lowS y.1 (2 ^ e) (2 ^ e) bg en = r at *
    by_cases c1 : r = -1
    · rw [if_pos c1]
      refine Or.inl ⟨rfl, Or.inl ?_⟩
      rw [e2, ← c1]
      exact hlo'
    · rw [if_neg c1]
      have hr0 : 0 ≤ r := by omega
      have hren : r + 2 ^ e ≤ 1024 := by
        rcases hlo' with ⟨a1, -⟩ | ⟨a1, a2, a3, -⟩
        · omega
        · omega
      obtain ⟨a1, a2⟩ := shL_adf (z := y.1) (M := (y.2.1, y.2.2.1, y.2.2.2.1, y.2.2.2.2.1, ups y.2.2.2.2.2.1 i r, y.2.2.2.2.2.2)) (i := i) hS.1.1 (by omega) ⟨h0, by dsimp only; omega⟩ (by dsimp only; exact h2)
      have hS' : SmSt (adfS y.1 (y.2.1, y.2.2.1, y.2.2.2.1, y.2.2.2.2.1, ups y.2.2.2.2.2.1 i r, y.2.2.2.2.2.2) i) ((r, 2 ^ e) :: l) := by
        generalize adfS y.1 (y.2.1, y.2.2.1, y.2.2.2.1, y.2.2.2.2.1, ups y.2.2.2.2.2.1 i r, y.2.2.2.2.2.2) i = Z at a1 a2
        have hrow : ∀ j : Int, 0 ≤ j → j < Z.2.2.2.2.2 → (Z.2.2.2.2.1 j, Z.2.2.2.1 j) = if j < y.1.2.2.2.2.2 then (y.1.2.2.2.2.1 j, y.1.2.2.2.1 j) else (r, 2 ^ e) := by
          have hN := hS.1.1
          rw [shL_row, shL_row, a2, show (y.1.2.2.2.2.2 + 1).toNat = y.1.2.2.2.2.2.toNat + 1 by omega, rgL_app, List.map_append] at a1
          have hN := hS.1.1
          intro j j0 j1
          by_cases cj : j < y.1.2.2.2.2.2
          · rw [if_pos cj]
            have := List.append_inj_left a1 (by simp)
            have := map_rg_inj2 y.1.2.2.2.2.2.toNat 0 this j j0 (by omega)
            unfold rowZ at this
            simp only [Prod.mk.injEq] at this
            rw [this.2.2.2.1, this.2.2.2.2]
          · rw [if_neg cj]
            have := List.append_inj_right a1 (by simp)
            simp only [List.map_cons, List.map_nil, List.cons.injEq, and_true] at this
            unfold rowZ at this
            simp only [Prod.mk.injEq] at this
            rw [show j = 0 + (y.1.2.2.2.2.2.toNat : Int) by omega, this.2.2.2.1, this.2.2.2.2, ups_at, hsz]
        refine ⟨by rw [a2]; have := hS.1; omega, fun j j0 j1 => ?_, fun p hp => ?_, fun p hp => ?_⟩
        · rw [hrow j j0 j1]
          split
          · rename_i cj
            exact List.mem_cons_of_mem _ (hS.2.1 j j0 cj)
          · exact List.mem_cons_self
        · have hN := hS.1.1
          rcases List.mem_cons.mp hp with rfl | hp
          · refine ⟨y.1.2.2.2.2.2, hN, by omega, ?_⟩
            rw [hrow _ hN (by omega), if_neg (by omega)]
          · obtain ⟨j, j0, j1, j2⟩ := hS.2.2.1 p hp
            refine ⟨j, j0, by omega, ?_⟩
            rw [hrow j j0 (by omega), if_pos j1]
            exact j2
        · rcases List.mem_cons.mp hp with rfl | hp
          · exact ⟨hpw.1, hr0, hren⟩
          · exact hS.2.2.2 p hp
      have ih := ld_run (h := h) hbg m (i + 1) (adfS y.1 (y.2.1, y.2.2.1, y.2.2.2.1, y.2.2.2.2.1, ups y.2.2.2.2.2.1 i r, y.2.2.2.2.2.2) i, (y.2.1, y.2.2.1, y.2.2.2.1, y.2.2.2.2.1, ups y.2.2.2.2.2.1 i r, y.2.2.2.2.2.2)) ((r, 2 ^ e) :: l) τ hS' (by dsimp only; rw [a2]; omega) (by omega) (by dsimp only; omega) (by dsimp only; exact h2) (fun j j0 j1 => h3 j (by omega) (by omega)) (fun j j0 j1 => h4 j (by omega) (by omega))
      rcases ih with ⟨b1, b2⟩ | ⟨b1, b2, ⟨b3, b4, b5⟩, b6⟩
      · exact Or.inl ⟨b1, Or.inr ⟨r, hr0, by rw [e2]; exact hlo', by rw [e2]; exact b2⟩⟩
      · refine Or.inr ⟨b1, ⟨⟨?_, ?_⟩, ?_⟩, ⟨b3, b4, b5⟩, fun j hj => ?_⟩
        · rw [b6 i (by omega)]
          dsimp only
          rw [ups_at]
          exact hr0
        · rw [b6 i (by omega), e2]
          dsimp only
          rw [ups_at]
          exact hlo'
        · rw [b6 i (by omega), e2]
          dsimp only
          rw [ups_at]
          exact b2
        · rw [b6 j (by omega)]
          dsimp only
          rw [ups_ne _ _ (by omega)]
end CA
