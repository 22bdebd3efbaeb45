/-! NUMBERING: the class's recursion is the reference's stack -/
section EI
variable {c c' c0 A B w o O0 : Int → Int} {e f a b k t x v n d i q at' : Int} {s : zNu} {y : zNB} {z : zNo}
def nuG (y : zNo) (e : Int) : zNo := nuF (fun _ => e) 0 y
def NuL : List Int → zNo → Prop
  | [], _ => True
  | e :: L, y => (clW (y.1.1 (23 * e + 2)) y.1.2.2.1.toNat y.1).2.2.1 ≤ 5 ∧ NuL L (nuG y e)
theorem NuP_L : ∀ (m : Nat) (i : Int) (y : zNo), NuL ((rgL i m).map o) y → NuP o m i y
  | 0, _, _, _ => trivial
  | m + 1, i, y, h => ⟨h.1, NuP_L m (i + 1) (nuF o i y) h.2⟩
theorem nu_lp : ∀ (m : Nat) (i : Int) (y : zNo), lp (nuF o) m i y = ((rgL i m).map o).foldl nuG y
  | 0, _, _ => rfl
  | m + 1, i, y => nu_lp m (i + 1) (nuF o i y)
theorem NuL_app : ∀ (L L' : List Int) (y : zNo), NuL L y → NuL L' (L.foldl nuG y) → NuL (L ++ L') y
  | [], _, _, _, h => h
  | e :: L, L', y, h, h' => ⟨h.1, NuL_app L L' (nuG y e) h.2 h'⟩
theorem clA_snoc : ∀ (m : Nat) (s : zNu), clA (m + 1) s = clF (clA m s)
  | 0, _ => rfl
  | m + 1, s => clA_snoc m (clF s)
theorem clA_O : ∀ (m : Nat) (s : zNu), (clA m s).2.1 = s.2.1 ∧ (clA m s).2.2.1 = s.2.2.1 - m
  | 0, s => ⟨rfl, by show s.2.2.1 = s.2.2.1 - ((0 : Nat) : Int); omega⟩
  | m + 1, s => by
    obtain ⟨h1, h2⟩ := clA_O m (clF s)
    have e1 : (clF s).2.2.1 = s.2.2.1 - 1 := rfl
    exact ⟨h1, by show (clA m (clF s)).2.2.1 = _; omega⟩
theorem clA_I (hg : MG A) : ∀ (m : Nat) (s : zNu), NuI A s → (m : Int) ≤ s.2.2.1 → NuI A (clA m s)
  | 0, _, h, _ => h
  | m + 1, s, h, hm => by
    have e1 : (clF s).2.2.1 = s.2.2.1 - 1 := rfl
    exact clA_I hg m (clF s) (clF_I hg h (by omega)) (by omega)
theorem clA_hi (hg : MG A) : ∀ (m : Nat) (s : zNu), NuI A s → (m : Int) ≤ s.2.2.1 → (∀ i : Int, s.2.2.1 - m ≤ i → i < s.2.2.1 → thM A (s.2.1 i)) → ∀ j : Int, 0 ≤ j → (460 ≤ j ∨ ¬ thM A (j / 23)) → (clA m s).1 j = s.1 j
  | 0, _, _, _, _ => fun _ _ _ => rfl
  | m + 1, s, h, hm, hO => fun j j0 hj => by
    have e1 : (clF s).2.2.1 = s.2.2.1 - 1 := rfl
    have h2 := clA_hi hg m (clF s) (clF_I hg h (by omega)) (by omega) (fun i i0 i1 => hO i (by omega) (by omega)) j j0 hj
    have ho := hO (s.2.2.1 - 1) (by omega) (by omega)
    have hr := th_rg ho
    show (clA m (clF s)).1 j = _
    rw [h2]
    refine ups_ne _ _ (fun q => ?_)
    rcases hj with r | r
    · omega
    · exact r (by rw [show j / 23 = s.2.1 (s.2.2.1 - 1) by omega]; exact ho)
theorem clW_le : ∀ (n : Nat) (s : zNu), (clW at' n s).2.2.1 ≤ s.2.2.1
  | 0, _ => Int.le_refl _
  | n + 1, s => by
    simp only [clW]
    split
    · exact Int.le_refl _
    · have h := clW_le n (clF s)
      have e1 : (clF s).2.2.1 = s.2.2.1 - 1 := rfl
      omega
theorem clW_to (hq : 0 ≤ q) : ∀ (m : Nat) (s : zNu), s.2.2.1 = q + m → (∀ j : Int, q ≤ j → j < q + m → s.2.1 j ≠ at') → (q = 0 ∨ s.2.1 (q - 1) = at') → clW at' s.2.2.1.toNat s = clA m s
  | 0, s, h, _, h2 => by
    rcases h2 with r | r
    · rw [show s.2.2.1.toNat = 0 by omega]
      rfl
    · by_cases r0 : q = 0
      · rw [show s.2.2.1.toNat = 0 by omega]
        rfl
      · rw [show s.2.2.1.toNat = (s.2.2.1.toNat - 1) + 1 by omega]
        simp only [clW]
        rw [if_pos (by rw [h, show q + ((0 : Nat) : Int) - 1 = q - 1 by omega]; exact r)]
        rfl
  | m + 1, s, h, h1, h2 => by
    rw [show s.2.2.1.toNat = (s.2.2.1.toNat - 1) + 1 by omega]
    simp only [clW]
    rw [if_neg (h1 _ (by omega) (by omega))]
    have e1 : (clF s).2.2.1 = s.2.2.1 - 1 := rfl
    rw [show s.2.2.1.toNat - 1 = (clF s).2.2.1.toNat by omega]
    exact clW_to hq m (clF s) (by omega) (fun j j0 j1 => h1 j j0 (by omega)) h2
/-- class and reference, all closed, are one -/
def NuR (A : Int → Int) (y : zNB) (s : zNu) (on : Int → Bool) : Prop := y.1 = s.2.2.2 ∧ ∀ e, thM A e → gt y.2 e 7 = s.1 (23 * e + 17) ∧ gt y.2 e 8 = s.1 (23 * e + 18) ∧ (gt y.2 e 3 = 1 ↔ on e = true)
/-- on the way: so many are open -/
def NuM (A : Int → Int) (q : Int) (L : List Int) (c0 O0 : Int → Int) (y : zNB) (z : zNo) (m : Nat) : Prop := NuI A z.1 ∧ z.1.2.2.1 = q + m ∧ (∀ j : Int, j < q → z.1.2.1 j = O0 j) ∧ (∀ j : Int, q ≤ j → j < q + m → z.1.2.1 j ∈ L) ∧ NuR A y (clA m z.1) z.2 ∧ NbK y.2 c0 ∧ ∀ j : Int, 0 ≤ j → (460 ≤ j ∨ ¬ thM A (j / 23)) → z.1.1 j = A j
theorem adB_iff {p : Int → Bool} : adB p e x = true ↔ p x = true ∨ x = e := by
  unfold adB
  rw [Bool.or_eq_true, decide_eq_true_eq]
theorem adB_ne {p : Int → Bool} (h : x ≠ e) : adB p e x = p x := by
  unfold adB
  rw [decide_eq_false h, Bool.or_false]
theorem nu_skip : ∀ (L : List Int) (z : zNo), NuI A z.1 → z.1.2.2.1 ≤ 5 → (∀ d ∈ L, thM A d ∧ 0 ≤ A (23 * d + 2) ∧ z.2 (A (23 * d + 2)) = false) → NuL L z ∧ L.foldl nuG z = z
  | [], _, _, _, _ => ⟨trivial, rfl⟩
  | d :: L, z, h, h5, hL => by
    obtain ⟨h1, h2, h3⟩ := hL d List.mem_cons_self
    have hr := th_rg h1
    have e2 : z.1.1 (23 * d + 2) = A (23 * d + 2) := h.2.2.2 d 2 hr.1 hr.2 (by omega) (by omega) (by omega) (by omega)
    have eG : nuG z d = z := by
      unfold nuG nuF
      rw [e2]
      exact if_pos ⟨h2, h3⟩
    obtain ⟨i1, i2⟩ := nu_skip L z h h5 (fun d hd => hL d (List.mem_cons_of_mem _ hd))
    have hle := clW_le (at' := z.1.1 (23 * d + 2)) z.1.2.2.1.toNat z.1
    rw [List.foldl_cons, eG]
    refine ⟨⟨by omega, ?_⟩, i2⟩
    rw [eG]
    exact i1
/-- whose bus what is on a walk is on -/
theorem dfs_par : ∀ (n : Nat) (a x : Int), x ∈ dfs A n a → A (23 * x + 2) = a ∨ A (23 * x + 2) ∈ dfs A n a
  | 0, _, _, h => absurd h List.not_mem_nil
  | n + 1, a, x, h => by
    obtain ⟨p, h1, h2, h3, h4, hx⟩ := (mem_dfs n).mp h
    rcases hx with rfl | ⟨hb, hx⟩
    · exact Or.inl h2
    · right
      refine (mem_dfs n).mpr ⟨p, h1, h2, h3, h4, ?_⟩
      rcases dfs_par n p x hx with q | q
      · exact Or.inl q
      · exact Or.inr ⟨hb, q⟩
theorem dfs_ne (hs : gS A) (ha : a = -1 ∨ thM A a) (l : Nat) : a ∉ dfs A l a := fun h => by
  have h1 := (dfs_th hs l a a h).1
  have := (dfs_lb hs l h ha).2 h1.1
  omega
theorem nu_bus (hM : MG A) (hs : gS A) (hF : WkF A w n) (hc : ∀ e, thM A e → gt c0 e 0 = 1 + A (23 * e + 1) ∧ gt c0 e 1 = A (23 * e + 2) ∧ gt c0 e 4 = A (23 * e + 15)) : ∀ (l : Nat) (a q : Int) (O0 : Int → Int) (y : zNB) (z : zNo), (a = -1 ∨ thM A a) → q + l = 5 → ((a = -1 ∧ q = 0) ∨ (0 ≤ a ∧ 1 ≤ q ∧ O0 (q - 1) = a)) → (0 ≤ a → z.2 a = true) → NuM A q [] c0 O0 y z 0 → (∀ d ∈ dfs A l a, z.2 d = false) → NuL (dfs A l a) z ∧ (∃ m : Nat, NuM A q (dfs A l a) c0 O0 (nbS w n l a y.1 y.2) ((dfs A l a).foldl nuG z) m) ∧ ∀ e, e ∉ dfs A l a → ((dfs A l a).foldl nuG z).2 e = z.2 e
  | 0, a, q, O0, y, z, ha, hl, hq, hon, hz, hd => ⟨trivial, ⟨0, hz⟩, fun _ _ => rfl⟩
  | l + 1, a, q, O0, y, z, ha, hl, hq, hon, hz, hd => by
    have hq0 : 0 ≤ q := by omega
    have hfold := nb_fold (f := y.1) (c := y.2) (a := a) hs hF (fun e he => by rw [hz.2.2.2.2.2.1 e 1 (by omega) (by omega) (by omega)]; exact (hc e he).2.1) l
    have hane := dfs_ne hs ha (l + 1)
    -- one slot
    have slot : ∀ (i : Int) (y : zNB) (z : zNo) (mm : Nat), (∀ d ∈ slL A l a i, d ∈ dfs A (l + 1) a) → NuM A q (dfs A (l + 1) a) c0 O0 y z mm → (0 ≤ a → z.2 a = true) → (∀ d ∈ slL A l a i, z.2 d = false) → List.Pairwise (fun x y => keM A x < keM A y) (slL A l a i) → NuL (slL A l a i) z ∧ (∃ m : Nat, NuM A q (dfs A (l + 1) a) c0 O0 (nbL (nbS w n l) A a y i) ((slL A l a i).foldl nuG z) m) ∧ ∀ e, e ∉ slL A l a i → ((slL A l a i).foldl nuG z).2 e = z.2 e := by
      intro i y z mm hsub hz hon hoff hpw
      unfold slL at hsub hoff hpw ⊢
      unfold nbL
      rcases pM_cases A a i with h | ⟨h1, h2, h3⟩
      · rw [if_pos h, if_pos h]
        exact ⟨trivial, ⟨mm, hz⟩, fun _ _ => rfl⟩
      · have hn : ¬ pM A a i = -1 := by have := h1.1; omega
        rw [if_neg hn] at hsub hoff hpw
        rw [if_neg hn, if_neg hn]
        generalize pM A a i = e at *
        have hr := th_rg h1
        obtain ⟨z1, z2, z3, z4, z5, z6, z7⟩ := hz
        obtain ⟨hc0, hc1, hc4⟩ := hc e h1
        have e2 : z.1.1 (23 * e + 2) = a := by rw [z1.2.2.2 e 2 hr.1 hr.2 (by omega) (by omega) (by omega) (by omega), h2]
        have eW : clW a z.1.2.2.1.toNat z.1 = clA mm z.1 := clW_to hq0 mm z.1 z2 (fun j j0 j1 hj => hane (by have h4 := z4 j j0 j1; rw [hj] at h4; exact h4)) (by
          rcases hq with ⟨q1, q2⟩ | ⟨q1, q2, q3⟩
          · exact Or.inl q2
          · right
            rw [z3 (q - 1) (by omega)]
            exact q3)
        have hI1 := clA_I hM mm z.1 z1 (by omega)
        have hi1 : ∀ j : Int, 0 ≤ j → (460 ≤ j ∨ ¬ thM A (j / 23)) → (clA mm z.1).1 j = A j := fun j j0 hj => by rw [clA_hi hM mm z.1 z1 (by omega) (fun i i0 i1 => (dfs_th hs _ _ _ (z4 i (by omega) (by omega))).1) j j0 hj]; exact z7 j j0 hj
        obtain ⟨o1, o2⟩ := clA_O mm z.1
        have eG : nuG z e = if (clA mm z.1).1 (23 * e + 1) = 1 then (if 31 < (clA mm z.1).2.2.2 then (clA mm z.1, z.2) else ((ups (clA mm z.1).1 (23 * e + 17) (clA mm z.1).2.2.2, ups (clA mm z.1).2.1 (clA mm z.1).2.2.1 e, (clA mm z.1).2.2.1 + 1, (clA mm z.1).2.2.2 + 1), adB z.2 e)) else (clA mm z.1, adB z.2 e) := by
          unfold nuG nuF
          dsimp only
          rw [e2, eW]
          refine if_neg (fun r => ?_)
          rw [hon r.1] at r
          exact absurd r.2 (by decide)
        have hN1 : (clW (z.1.1 (23 * e + 2)) z.1.2.2.1.toNat z.1).2.2.1 ≤ 5 := by
          rw [e2, eW, o2]
          omega
        generalize clA mm z.1 = s1 at *
        have h1e : s1.1 (23 * e + 1) = A (23 * e + 1) := hI1.2.2.2 e 1 hr.1 hr.2 (by omega) (by omega) (by omega) (by omega)
        have hgt0 : gt y.2 e 0 = 1 + A (23 * e + 1) := by rw [z6 e 0 (by omega) (by omega) (by omega), hc0]
        have hoe := hoff e List.mem_cons_self
        by_cases hb : A (23 * e + 1) = 1
        · rw [if_pos hb] at hsub hoff hpw ⊢
          have eG1 : nbG (nbS w n l) y e = if y.1 ≤ 31 then (min ((nbS w n l e (y.1 + 1) (stc (stc y.2 e 3 1) e 7 y.1)).1 - 1 + gt (nbS w n l e (y.1 + 1) (stc (stc y.2 e 3 1) e 7 y.1)).2 e 4) 31 + 1, stc (nbS w n l e (y.1 + 1) (stc (stc y.2 e 3 1) e 7 y.1)).2 e 8 (min ((nbS w n l e (y.1 + 1) (stc (stc y.2 e 3 1) e 7 y.1)).1 - 1 + gt (nbS w n l e (y.1 + 1) (stc (stc y.2 e 3 1) e 7 y.1)).2 e 4) 31)) else y := if_pos (by omega)
          rw [if_pos (by rw [h1e]; exact hb)] at eG
          by_cases hx : 31 < s1.2.2.2
          · -- no number is left
            rw [if_pos hx] at eG
            rw [if_neg (by have := z5.1; omega)] at eG1
            obtain ⟨k1, k2⟩ := nu_skip (A := A) (dfs A l e) (s1, z.2) hI1 (by dsimp only; omega) (fun d hd => by
              have hd1 := (dfs_th hs l e d hd).1
              rcases dfs_par l e d hd with r | r
              · rw [r]
                exact ⟨hd1, hr.1, hoe⟩
              · exact ⟨hd1, (dfs_th hs l e _ r).1.1, hoff _ (List.mem_cons_of_mem _ r)⟩)
            rw [List.foldl_cons, eG, k2, eG1]
            refine ⟨⟨hN1, by rw [eG]; exact k1⟩, ⟨0, hI1, by dsimp only; omega, fun j hj => by dsimp only; rw [o1]; exact z3 j hj, fun j j0 j1 => by omega, z5, z6, hi1⟩, fun _ _ => rfl⟩
          · rw [if_neg hx] at eG
            rw [if_pos (by have := z5.1; omega)] at eG1
            have hI2 : NuI A (ups s1.1 (23 * e + 17) s1.2.2.2, ups s1.2.1 s1.2.2.1 e, s1.2.2.1 + 1, s1.2.2.2 + 1) := by
              have b2 := hI1.2.1
              have b3 := hI1.2.2.1
              refine ⟨fun j q0 q1 => ?_, by dsimp only; omega, by dsimp only; omega, fun x f q0 q1 q2 q3 q4 q5 => ?_⟩
              · dsimp only at q1 ⊢
                by_cases cc : j = s1.2.2.1
                · rw [cc, ups_at]
                  exact hr
                · rw [ups_ne _ _ cc]
                  exact hI1.1 j q0 (by omega)
              · dsimp only
                rw [ups_ne _ _ (by omega)]
                exact hI1.2.2.2 x f q0 q1 q2 q3 q4 q5
            obtain ⟨p1, p2⟩ := List.pairwise_cons.mp hpw
            have hne : ∀ d ∈ dfs A l e, d ≠ e := fun d hd r => by
              have := p1 d hd
              rw [r] at this
              omega
            have hK1 : NbK (stc (stc y.2 e 3 1) e 7 y.1) c0 := NbK_stc (NbK_stc z6 (Or.inl rfl)) (Or.inr (Or.inl rfl))
            obtain ⟨i1, ⟨m2, i2⟩, i3⟩ := nu_bus hM hs hF hc l e (q + 1) (ups s1.2.1 s1.2.2.1 e) (y.1 + 1, stc (stc y.2 e 3 1) e 7 y.1) ((ups s1.1 (23 * e + 17) s1.2.2.2, ups s1.2.1 s1.2.2.1 e, s1.2.2.1 + 1, s1.2.2.2 + 1), adB z.2 e) (Or.inr h1) (by omega) (Or.inr ⟨hr.1, by omega, by rw [show q + 1 - 1 = s1.2.2.1 by omega, ups_at]⟩) (fun _ => adB_iff.mpr (Or.inr rfl)) ⟨hI2, by dsimp only; omega, fun _ _ => rfl, fun j j0 j1 => by omega, ⟨by have := z5.1; show y.1 + 1 = s1.2.2.2 + 1; omega, fun x hx => by
                obtain ⟨u1, u2, u3⟩ := z5.2 x hx
                have hxr := th_rg hx
                show gt (stc (stc y.2 e 3 1) e 7 y.1) x 7 = ups s1.1 (23 * e + 17) s1.2.2.2 (23 * x + 17) ∧ gt (stc (stc y.2 e 3 1) e 7 y.1) x 8 = ups s1.1 (23 * e + 17) s1.2.2.2 (23 * x + 18) ∧ (gt (stc (stc y.2 e 3 1) e 7 y.1) x 3 = 1 ↔ adB z.2 e x = true)
                rw [ups_ne s1.1 _ (show 23 * x + 18 ≠ 23 * e + 17 by omega), gt_stc, gt_stc, gt_stc, gt_stc, gt_stc, gt_stc]
                by_cases r : x = e
                · rw [r, ups_at, if_pos ⟨rfl, rfl, hr.1, hr.2, by omega, by omega⟩, if_neg (by omega), if_neg (by omega), if_neg (by omega), if_pos ⟨rfl, rfl, hr.1, hr.2, by omega, by omega⟩]
                  rw [r] at u2
                  exact ⟨z5.1, u2, fun _ => adB_iff.mpr (Or.inr rfl), fun _ => rfl⟩
                · rw [ups_ne _ _ (by omega), if_neg (fun s => r s.1), if_neg (fun s => r s.1), if_neg (fun s => r s.1), if_neg (fun s => r s.1), if_neg (fun s => r s.1), if_neg (fun s => r s.1), adB_ne r]
                  exact ⟨u1, u2, u3⟩⟩, hK1, fun j j0 hj => by
                dsimp only
                rw [ups_ne _ _ (fun r => hj.elim (fun v => by omega) (fun v => v (by rw [show j / 23 = e by omega]; exact h1)))]
                exact hi1 j j0 hj⟩ (fun d hd => by
                dsimp only
                rw [adB_ne (hne d hd)]
                exact hoff d (List.mem_cons_of_mem _ hd))
            rw [List.foldl_cons, eG, eG1]
            generalize (dfs A l e).foldl nuG ((ups s1.1 (23 * e + 17) s1.2.2.2, ups s1.2.1 s1.2.2.1 e, s1.2.2.1 + 1, s1.2.2.2 + 1), adB z.2 e) = Z at *
            dsimp only at i2
            generalize nbS w n l e (y.1 + 1) (stc (stc y.2 e 3 1) e 7 y.1) = R at *
            obtain ⟨j1, j2, j3, j4, j5, j6, j7⟩ := i2
            refine ⟨⟨hN1, by rw [eG]; exact i1⟩, ⟨m2 + 1, j1, by omega, fun j hj => ?_, fun j q0 q1 => ?_, ?_, NbK_stc j6 (Or.inr (Or.inr rfl)), j7⟩, fun x hx => ?_⟩
            · rw [j3 j (by omega), ups_ne _ _ (by omega), o1]
              exact z3 j hj
            · by_cases r : j = q
              · rw [r, j3 q (by omega), show q = s1.2.2.1 by omega, ups_at]
                exact hsub e List.mem_cons_self
              · exact hsub _ (List.mem_cons_of_mem _ (j4 j (by omega) (by omega)))
            · rw [clA_snoc]
              obtain ⟨w1, w2⟩ := clA_O m2 Z.1
              have hIr := clA_I hM m2 Z.1 j1 (by omega)
              generalize clA m2 Z.1 = r at *
              have hrh : r.2.2.1 = q + 1 := by omega
              have htop : r.2.1 (r.2.2.1 - 1) = e := by
                rw [hrh, show q + 1 - 1 = q by omega, w1, j3 q (by omega), show q = s1.2.2.1 by omega, ups_at]
              have h15 : r.1 (23 * e + 15) = A (23 * e + 15) := hIr.2.2.2 e 15 hr.1 hr.2 (by omega) (by omega) (by omega) (by omega)
              have hg4 : gt R.2 e 4 = A (23 * e + 15) := by rw [j6 e 4 (by omega) (by omega) (by omega), hc4]
              have enm : nmL r = min (R.1 - 1 + gt R.2 e 4) 31 := by
                unfold nmL
                rw [htop, h15, hg4, ← j5.1]
                split <;> omega
              refine ⟨?_, fun x hx => ?_⟩
              · show min (R.1 - 1 + gt R.2 e 4) 31 + 1 = nmL r + 1
                rw [enm]
              · obtain ⟨u1, u2, u3⟩ := j5.2 x hx
                have hxr := th_rg hx
                show gt (stc R.2 e 8 (min (R.1 - 1 + gt R.2 e 4) 31)) x 7 = ups r.1 (23 * r.2.1 (r.2.2.1 - 1) + 18) (nmL r) (23 * x + 17) ∧ gt (stc R.2 e 8 (min (R.1 - 1 + gt R.2 e 4) 31)) x 8 = ups r.1 (23 * r.2.1 (r.2.2.1 - 1) + 18) (nmL r) (23 * x + 18) ∧ (gt (stc R.2 e 8 (min (R.1 - 1 + gt R.2 e 4) 31)) x 3 = 1 ↔ Z.2 x = true)
                rw [htop, ← enm, ups_ne r.1 _ (show 23 * x + 17 ≠ 23 * e + 18 by omega), gt_stc, gt_stc, gt_stc, if_neg (by omega), if_neg (show ¬ (x = e ∧ (3 : Int) = 8 ∧ 0 ≤ e ∧ e < 20 ∧ (0 : Int) ≤ 8 ∧ (8 : Int) < 24) by omega)]
                refine ⟨u1, ?_, u3⟩
                by_cases v : x = e
                · rw [v, ups_at, if_pos ⟨rfl, rfl, hr.1, hr.2, by omega, by omega⟩]
                · rw [ups_ne _ _ (by omega), if_neg (fun s => v s.1)]
                  exact u2
            · rw [i3 x (fun r => hx (List.mem_cons_of_mem _ r))]
              exact adB_ne (fun r => hx (by rw [r]; exact List.mem_cons_self))
        · rw [if_neg hb]
          rw [if_neg (by rw [h1e]; exact hb)] at eG
          have eG1 : nbG (nbS w n l) y e = (y.1, stc y.2 e 3 1) := if_neg (by omega)
          rw [List.foldl_cons, List.foldl_nil, eG, eG1]
          refine ⟨⟨hN1, trivial⟩, ⟨0, hI1, by dsimp only; omega, fun j hj => by dsimp only; rw [o1]; exact z3 j hj, fun j j0 j1 => by omega, ⟨z5.1, fun x hx => ?_⟩, NbK_stc z6 (Or.inl rfl), hi1⟩, fun x hx => adB_ne (fun r => hx (by rw [r]; exact List.mem_cons_self))⟩
          obtain ⟨u1, u2, u3⟩ := z5.2 x hx
          show gt (stc y.2 e 3 1) x 7 = s1.1 (23 * x + 17) ∧ gt (stc y.2 e 3 1) x 8 = s1.1 (23 * x + 18) ∧ (gt (stc y.2 e 3 1) x 3 = 1 ↔ adB z.2 e x = true)
          rw [gt_stc, gt_stc, gt_stc, if_neg (by omega), if_neg (show ¬ (x = e ∧ (8 : Int) = 3 ∧ 0 ≤ e ∧ e < 20 ∧ (0 : Int) ≤ 3 ∧ (3 : Int) < 24) by omega)]
          refine ⟨u1, u2, ?_⟩
          by_cases r : x = e
          · rw [if_pos ⟨r, rfl, hr.1, hr.2, by omega, by omega⟩]
            exact ⟨fun _ => adB_iff.mpr (Or.inr r), fun _ => rfl⟩
          · rw [if_neg (fun s => r s.1), adB_ne r]
            exact u3
    -- all slots
    have loop : ∀ (m' : Nat) (i : Int) (y : zNB) (z : zNo) (mm : Nat), (∀ d ∈ (rgL i m').flatMap (slL A l a), d ∈ dfs A (l + 1) a) → NuM A q (dfs A (l + 1) a) c0 O0 y z mm → (0 ≤ a → z.2 a = true) → (∀ d ∈ (rgL i m').flatMap (slL A l a), z.2 d = false) → List.Pairwise (fun x y => keM A x < keM A y) ((rgL i m').flatMap (slL A l a)) → NuL ((rgL i m').flatMap (slL A l a)) z ∧ (∃ m : Nat, NuM A q (dfs A (l + 1) a) c0 O0 ((rgL i m').foldl (nbL (nbS w n l) A a) y) (((rgL i m').flatMap (slL A l a)).foldl nuG z) m) ∧ ∀ e, e ∉ (rgL i m').flatMap (slL A l a) → (((rgL i m').flatMap (slL A l a)).foldl nuG z).2 e = z.2 e := by
      intro m'
      induction m' with
      | zero => exact fun i y z mm _ hz _ _ _ => ⟨trivial, ⟨mm, hz⟩, fun _ _ => rfl⟩
      | succ m' ih =>
        intro i y z mm hsub hz hon hoff hpw
        simp only [rgL, List.flatMap_cons] at hsub hoff hpw ⊢
        obtain ⟨pw1, pw2, pw3⟩ := List.pairwise_append.mp hpw
        obtain ⟨s1, ⟨m1, s2⟩, s3⟩ := slot i y z mm (fun d hd => hsub d (List.mem_append_left _ hd)) hz hon (fun d hd => hoff d (List.mem_append_left _ hd)) pw1
        obtain ⟨t1, t2, t3⟩ := ih (i + 1) _ _ m1 (fun d hd => hsub d (List.mem_append_right _ hd)) s2 (fun h0 => by
          rw [s3 a (fun r => hane (hsub a (List.mem_append_left _ r)))]
          exact hon h0) (fun d hd => by
          rw [s3 d (fun r => by
            have := pw3 d r d hd
            omega)]
          exact hoff d (List.mem_append_right _ hd)) pw2
        rw [List.foldl_append, List.foldl_cons]
        refine ⟨NuL_app _ _ _ s1 t1, t2, fun x hx => ?_⟩
        rw [t3 x (fun r => hx (List.mem_append_right _ r)), s3 x (fun r => hx (List.mem_append_left _ r))]
    have hz' : NuM A q (dfs A (l + 1) a) c0 O0 y z 0 := ⟨hz.1, hz.2.1, hz.2.2.1, fun j j0 j1 => by omega, hz.2.2.2.2.1, hz.2.2.2.2.2⟩
    have hpw := dfs_pw hs (l + 1) a ha
    have hres := loop 8 0 y z 0 (fun d hd => hd) hz' hon hd hpw
    rw [hfold]
    exact hres
end EI
