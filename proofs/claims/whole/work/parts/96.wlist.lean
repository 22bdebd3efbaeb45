/-! THE CLASS'S WALK as a list -/
section WL
variable {c A B : Int → Int} {e f a b p x n : Int} {o w : Int → Int}
theorem rgL_app : ∀ (n : Nat) (i : Int), rgL i (n + 1) = rgL i n ++ [i + n]
  | 0, i => by
    simp only [rgL, List.nil_append]
    rw [show i + ((0 : Nat) : Int) = i by omega]
  | n + 1, i => by
    have h := rgL_app n (i + 1)
    rw [rgL, h, rgL, List.cons_append, show i + 1 + (n : Int) = i + ((n + 1 : Nat) : Int) by omega]
theorem lsO_congr {o' : Int → Int} (h : ∀ i : Int, 0 ≤ i → i < n → o i = o' i) : lsO o n = lsO o' n := by
  unfold lsO
  refine List.map_congr_left (fun i hi => ?_)
  have := (mem_rgL _ _ _).mp hi
  exact h i (by omega) (by omega)
theorem lsO_push (h : 0 ≤ n) : lsO (ups o n x) (n + 1) = lsO o n ++ [x] := by
  have e1 : lsO (ups o n x) n = lsO o n := lsO_congr (fun i h0 h1 => ups_ne _ _ (by omega))
  rw [← e1]
  unfold lsO
  rw [show (n + 1).toNat = n.toNat + 1 by omega, rgL_app, List.map_append]
  simp only [List.map_cons, List.map_nil]
  rw [show (0 : Int) + (n.toNat : Int) = n by omega, ups_at]
theorem lsO_len (h : 0 ≤ n) : ((lsO o n).length : Int) = n := by
  unfold lsO
  rw [List.length_map]
  have : ∀ (m : Nat) (i : Int), (rgL i m).length = m := by
    intro m
    induction m with
    | zero => exact fun _ => rfl
    | succ m ih => exact fun i => by rw [rgL, List.length_cons, ih]
  rw [this]
  omega
theorem map_rg_inj {o' : Int → Int} : ∀ (m : Nat) (i : Int), (rgL i m).map o = (rgL i m).map o' → ∀ j : Int, i ≤ j → j < i + m → o j = o' j
  | 0, i, _, j, h0, h1 => by omega
  | m + 1, i, h, j, h0, h1 => by
    simp only [rgL, List.map_cons, List.cons.injEq] at h
    by_cases q : j = i
    · rw [q]
      exact h.1
    · exact map_rg_inj m (i + 1) h.2 j (by omega) (by omega)
theorem lsO_inj {o' : Int → Int} {n' : Int} (h0 : 0 ≤ n) (h1 : 0 ≤ n') (h : lsO o n = lsO o' n') : n = n' ∧ ∀ i : Int, 0 ≤ i → i < n → o i = o' i := by
  have e1 := lsO_len (o := o) h0
  have e2 := lsO_len (o := o') h1
  rw [h] at e1
  have e : n = n' := by omega
  refine ⟨e, ?_⟩
  rw [← e] at h
  intro i i0 i1
  exact map_rg_inj n.toNat 0 h i i0 (by omega)
theorem sim_pM (h : SimW c A) : plg c a x = pM A a x := ff_congr 20 0 (fun e _ _ => by
  obtain ⟨h1, -, h3⟩ := h e
  unfold plgB isM
  refine decide_eq_decide.mpr ?_
  constructor
  · rintro ⟨q1, q2, q3⟩
    have ht := h1.mp q1
    exact ⟨ht, by rw [← (h3 ht).1]; exact q2, by rw [← (h3 ht).2]; exact q3⟩
  · rintro ⟨q1, q2, q3⟩
    exact ⟨h1.mpr q1, by rw [(h3 q1).1]; exact q2, by rw [(h3 q1).2]; exact q3⟩)
/-- what one slot gives -/
def slL (A : Int → Int) (l : Nat) (a s : Int) : List Int := if pM A a s = -1 then [] else pM A a s :: (if A (23 * pM A a s + 1) = 1 then dfs A l (pM A a s) else [])
theorem dfs_slL (l : Nat) : dfs A (l + 1) a = (rgL 0 8).flatMap (slL A l a) := rfl
theorem wkb_ok (h : SimW c A) : ∀ (l : Nat) (a : Int) (s : zWS), 0 ≤ s.2 → s.2 + (dfs A l a).length ≤ 20 → (wkb c l a s).2 = s.2 + (dfs A l a).length ∧ lsO (wkb c l a s).1 (wkb c l a s).2 = lsO s.1 s.2 ++ dfs A l a
  | 0, a, s, h0, h1 => by
    simp only [wkb, dfs, List.length_nil, List.append_nil]
    exact ⟨by omega, trivial⟩
  | l + 1, a, s, h0, h1 => by
    have hl := fun a s => wkb_ok h l a s
    have slot : ∀ (x : Int) (s : zWS), 0 ≤ s.2 → s.2 + (slL A l a x).length ≤ 20 → (wkf c (wkb c l) a x s).2 = s.2 + (slL A l a x).length ∧ lsO (wkf c (wkb c l) a x s).1 (wkf c (wkb c l) a x s).2 = lsO s.1 s.2 ++ slL A l a x := by
      intro x s h0 h1
      unfold wkf
      unfold slL at h1 ⊢
      rw [sim_pM h]
      rcases pM_cases A a x with q | ⟨q1, q2, q3⟩
      · rw [if_neg (fun r => r.1 q), if_pos q]
        simp only [List.length_nil, List.append_nil]
        exact ⟨by omega, trivial⟩
      · have hn : ¬ pM A a x = -1 := by have := q1.1; omega
        rw [if_neg hn, List.length_cons] at h1
        rw [if_neg hn, if_pos (show pM A a x ≠ -1 ∧ 0 ≤ s.2 ∧ s.2 < 20 from ⟨hn, h0, by omega⟩), List.length_cons]
        by_cases cb : A (23 * pM A a x + 1) = 1
        · rw [if_pos cb] at h1
          rw [if_pos cb, if_pos ((h _).2.1.mpr ⟨q1, cb⟩)]
          obtain ⟨i1, i2⟩ := hl (pM A a x) (ups s.1 s.2 (pM A a x), s.2 + 1) (by dsimp only; omega) (by dsimp only; omega)
          dsimp only at i1 i2
          refine ⟨by omega, ?_⟩
          rw [i2, lsO_push h0, List.append_assoc]
          rfl
        · rw [if_neg cb, if_neg (fun r => cb ((h _).2.1.mp r).2)]
          simp only [List.length_nil]
          exact ⟨by omega, lsO_push h0⟩
    have loop : ∀ (m : Nat) (i : Int) (s : zWS), 0 ≤ s.2 → s.2 + ((rgL i m).flatMap (slL A l a)).length ≤ 20 → (lp (wkf c (wkb c l) a) m i s).2 = s.2 + ((rgL i m).flatMap (slL A l a)).length ∧ lsO (lp (wkf c (wkb c l) a) m i s).1 (lp (wkf c (wkb c l) a) m i s).2 = lsO s.1 s.2 ++ (rgL i m).flatMap (slL A l a) := by
      intro m
      induction m with
      | zero =>
        intro i s h0 h1
        simp only [lp, rgL, List.flatMap_nil, List.length_nil, List.append_nil]
        exact ⟨by omega, trivial⟩
      | succ m ih =>
        intro i s h0 h1
        simp only [rgL, List.flatMap_cons, List.length_append] at h1
        simp only [lp, rgL, List.flatMap_cons, List.length_append]
        obtain ⟨s1, s2⟩ := slot i s h0 (by omega)
        obtain ⟨j1, j2⟩ := ih (i + 1) (wkf c (wkb c l) a i s) (by omega) (by omega)
        exact ⟨by omega, by rw [j2, s2, List.append_assoc]⟩
    rw [dfs_slL] at h1 ⊢
    simp only [wkb]
    exact loop 8 0 s h0 h1
theorem dfs_len (hs : gS A) : ((dfs A 5 (-1)).length : Int) = (wkA A).2 := by
  have hb := wkA_bd (A := A)
  rw [← wk_dfs hs]
  exact lsO_len hb.1
/-- the class's new walk is the reference's -/
theorem wkb_wkA (h : SimW c A) (hs : gS A) : (wkb c 5 (-1) (o, 0)).2 = (wkA A).2 ∧ ∀ i : Int, 0 ≤ i → i < (wkA A).2 → (wkb c 5 (-1) (o, 0)).1 i = (wkA A).1 i := by
  have hb := wkA_bd (A := A)
  have hl := dfs_len hs
  obtain ⟨h1, h2⟩ := wkb_ok h 5 (-1) (o, 0) (by dsimp only; omega) (by dsimp only; omega)
  dsimp only at h1
  have e0 : lsO ((o, 0) : zWS).1 ((o, 0) : zWS).2 = [] := rfl
  rw [e0, List.nil_append, ← wk_dfs hs] at h2
  obtain ⟨i1, i2⟩ := lsO_inj (by omega) (by omega) h2
  exact ⟨i1, fun i j0 j1 => i2 i j0 (by omega)⟩
end WL
