/-! NUMBERING: ranges lie in ranges, apart -/
section EJ
variable {c c' c0 A B w o O0 : Int → Int} {e f a b k t x v n d i q at' : Int} {y y' : zNB} {L L' : List Int}
def RgQ (A : Int → Int) (a f : Int) (L : List Int) (y : zNB) : Prop := (f ≤ y.1 ∧ y.1 ≤ 32) ∧ (∀ e ∈ L, gt y.2 e 3 = 1 → A (23 * e + 2) = a ∨ (A (23 * e + 2) ∈ L ∧ gt y.2 (A (23 * e + 2)) 3 = 1)) ∧ (∀ e ∈ L, gt y.2 e 3 = 1 → A (23 * e + 1) = 1 → (f ≤ gt y.2 e 7 ∧ gt y.2 e 7 ≤ gt y.2 e 8 ∧ gt y.2 e 8 < y.1) ∧ (A (23 * e + 2) ≠ a → gt y.2 (A (23 * e + 2)) 7 < gt y.2 e 7 ∧ gt y.2 e 8 ≤ gt y.2 (A (23 * e + 2)) 8)) ∧ ∀ e ∈ L, ∀ e' ∈ L, e ≠ e' → gt y.2 e 3 = 1 → A (23 * e + 1) = 1 → gt y.2 e' 3 = 1 → A (23 * e' + 1) = 1 → A (23 * e + 2) = A (23 * e' + 2) → gt y.2 e 8 < gt y.2 e' 7 ∨ gt y.2 e' 8 < gt y.2 e 7
theorem RgQ_app (h : RgQ A a f L y) (hL : ∀ d ∈ L, ∀ g : Int, gt y'.2 d g = gt y.2 d g) (h' : RgQ A a y.1 L' y') : RgQ A a f (L ++ L') y' := by
  obtain ⟨⟨a1, a2⟩, a3, a4, a5⟩ := h
  obtain ⟨⟨b1, b2⟩, b3, b4, b5⟩ := h'
  refine ⟨⟨by omega, b2⟩, fun e he ho => ?_, fun e he ho hb => ?_, fun e he e' he' hne ho hb ho' hb' hp => ?_⟩
  · rcases List.mem_append.mp he with q | q
    · rw [hL e q] at ho
      rcases a3 e q ho with r | ⟨r1, r2⟩
      · exact Or.inl r
      · exact Or.inr ⟨List.mem_append_left _ r1, by rw [hL _ r1]; exact r2⟩
    · rcases b3 e q ho with r | ⟨r1, r2⟩
      · exact Or.inl r
      · exact Or.inr ⟨List.mem_append_right _ r1, r2⟩
  · rcases List.mem_append.mp he with q | q
    · rw [hL e q] at ho
      obtain ⟨u1, u2⟩ := a4 e q ho hb
      rw [hL e q, hL e q]
      refine ⟨by omega, fun hp => ?_⟩
      rcases a3 e q ho with r | ⟨r1, r2⟩
      · exact absurd r hp
      · rw [hL _ r1, hL _ r1]
        exact u2 hp
    · obtain ⟨u1, u2⟩ := b4 e q ho hb
      exact ⟨by omega, u2⟩
  · rcases List.mem_append.mp he with q | q
    · rcases List.mem_append.mp he' with q' | q'
      · rw [hL e q] at ho
        rw [hL e' q'] at ho'
        rw [hL e q, hL e q, hL e' q', hL e' q']
        exact a5 e q e' q' hne ho hb ho' hb' hp
      · rw [hL e q] at ho
        obtain ⟨u1, -⟩ := a4 e q ho hb
        obtain ⟨v1, -⟩ := b4 e' q' ho' hb'
        rw [hL e q, hL e q]
        omega
    · rcases List.mem_append.mp he' with q' | q'
      · rw [hL e' q'] at ho'
        obtain ⟨u1, -⟩ := b4 e q ho hb
        obtain ⟨v1, -⟩ := a4 e' q' ho' hb'
        rw [hL e' q', hL e' q']
        omega
      · exact b5 e q e' q' hne ho hb ho' hb' hp
theorem RgQ_off (hf : y.1 ≤ 32) (h : ∀ e ∈ L, gt y.2 e 3 ≠ 1) : RgQ A a y.1 L y := ⟨⟨Int.le_refl _, hf⟩, fun e he ho => absurd ho (h e he), fun e he ho => absurd ho (h e he), fun e he _ _ _ ho => absurd ho (h e he)⟩
theorem nb_rg (hM : MG A) (hs : gS A) (hF : WkF A w n) (hc : ∀ e, thM A e → gt c0 e 0 = 1 + A (23 * e + 1) ∧ gt c0 e 1 = A (23 * e + 2) ∧ gt c0 e 4 = A (23 * e + 15)) : ∀ (l : Nat) (a : Int) (y : zNB), (a = -1 ∨ thM A a) → (1 ≤ y.1 ∧ y.1 ≤ 32) → NbK y.2 c0 → (∀ d ∈ dfs A l a, gt y.2 d 3 ≠ 1) → RgQ A a y.1 (dfs A l a) (nbS w n l a y.1 y.2) ∧ ∀ e, e ∉ dfs A l a → ∀ g : Int, gt (nbS w n l a y.1 y.2).2 e g = gt y.2 e g
  | 0, a, y, ha, hy, hK, hd => ⟨RgQ_off (y := y) hy.2 (fun e he => absurd he List.not_mem_nil), fun _ _ _ => rfl⟩
  | l + 1, a, y, ha, hy, hK, hd => by
    have hfold := nb_fold (f := y.1) (c := y.2) (a := a) hs hF (fun e he => by rw [hK e 1 (by omega) (by omega) (by omega)]; exact (hc e he).2.1) l
    have slot : ∀ (i : Int) (y : zNB), (1 ≤ y.1 ∧ y.1 ≤ 32) → NbK y.2 c0 → (∀ d ∈ slL A l a i, gt y.2 d 3 ≠ 1) → List.Pairwise (fun x y => keM A x < keM A y) (slL A l a i) → RgQ A a y.1 (slL A l a i) (nbL (nbS w n l) A a y i) ∧ NbK (nbL (nbS w n l) A a y i).2 c0 ∧ ∀ e, e ∉ slL A l a i → ∀ g : Int, gt (nbL (nbS w n l) A a y i).2 e g = gt y.2 e g := by
      intro i y hy hK hoff hpw
      unfold slL at hoff hpw ⊢
      unfold nbL
      rcases pM_cases A a i with h | ⟨h1, h2, h3⟩
      · rw [if_pos h, if_pos h]
        exact ⟨RgQ_off hy.2 (fun e he => absurd he List.not_mem_nil), hK, fun _ _ _ => rfl⟩
      · have hn : ¬ pM A a i = -1 := by have := h1.1; omega
        rw [if_neg hn] at hoff hpw
        rw [if_neg hn, if_neg hn]
        have hK' : NbK (nbG (nbS w n l) y (pM A a i)).2 c0 := NbK_trans (nbG_K (nbS_K l) y _) hK
        generalize pM A a i = e at *
        have hr := th_rg h1
        obtain ⟨hc0, hc1, hc4⟩ := hc e h1
        have hgt0 : gt y.2 e 0 = 1 + A (23 * e + 1) := by rw [hK e 0 (by omega) (by omega) (by omega), hc0]
        by_cases hb : A (23 * e + 1) = 1
        · rw [if_pos hb] at hoff hpw ⊢
          have eG1 : nbG (nbS w n l) y e = if y.1 ≤ 31 then (min ((nbS w n l e (y.1 + 1) (stc (stc y.2 e 3 1) e 7 y.1)).1 - 1 + gt (nbS w n l e (y.1 + 1) (stc (stc y.2 e 3 1) e 7 y.1)).2 e 4) 31 + 1, stc (nbS w n l e (y.1 + 1) (stc (stc y.2 e 3 1) e 7 y.1)).2 e 8 (min ((nbS w n l e (y.1 + 1) (stc (stc y.2 e 3 1) e 7 y.1)).1 - 1 + gt (nbS w n l e (y.1 + 1) (stc (stc y.2 e 3 1) e 7 y.1)).2 e 4) 31)) else y := if_pos (by omega)
          by_cases hx : y.1 ≤ 31
          · rw [if_pos hx] at eG1
            obtain ⟨p1, p2⟩ := List.pairwise_cons.mp hpw
            have hne : ∀ d ∈ dfs A l e, d ≠ e := fun d hd r => by
              have := p1 d hd
              rw [r] at this
              omega
            have hen : e ∉ dfs A l e := fun r => hne e r rfl
            have hc1g : ∀ x g : Int, x ≠ e → gt (stc (stc y.2 e 3 1) e 7 y.1) x g = gt y.2 x g := fun x g r => by rw [gt_stc, gt_stc, if_neg (fun s => r s.1), if_neg (fun s => r s.1)]
            have hc17 : gt (stc (stc y.2 e 3 1) e 7 y.1) e 7 = y.1 := by rw [gt_stc, if_pos ⟨rfl, rfl, hr.1, hr.2, by omega, by omega⟩]
            have hc13 : gt (stc (stc y.2 e 3 1) e 7 y.1) e 3 = 1 := by rw [gt_stc, gt_stc, if_neg (by omega), if_pos ⟨rfl, rfl, hr.1, hr.2, by omega, by omega⟩]
            obtain ⟨i1, i2⟩ := nb_rg hM hs hF hc l e (y.1 + 1, stc (stc y.2 e 3 1) e 7 y.1) (Or.inr h1) (by dsimp only; omega) (NbK_stc (NbK_stc hK (Or.inl rfl)) (Or.inr (Or.inl rfl))) (fun d hd => by
              dsimp only
              rw [hc1g d 3 (hne d hd)]
              exact hoff d (List.mem_cons_of_mem _ hd))
            dsimp only at i1 i2
            have hRK : NbK (nbS w n l e (y.1 + 1) (stc (stc y.2 e 3 1) e 7 y.1)).2 c0 := NbK_trans (nbS_K l _ _ _) (NbK_stc (NbK_stc hK (Or.inl rfl)) (Or.inr (Or.inl rfl)))
            rw [eG1] at hK' ⊢
            generalize nbS w n l e (y.1 + 1) (stc (stc y.2 e 3 1) e 7 y.1) = R at *
            have hg4 : gt R.2 e 4 = A (23 * e + 15) := by rw [hRK e 4 (by omega) (by omega) (by omega), hc4]
            have h15 := (hM e hr.1 hr.2).2.2.2.2.2.2.1
            obtain ⟨⟨r1, r2⟩, r3, r4, r5⟩ := i1
            have hlast : ∃ la : Int, la = min (R.1 - 1 + gt R.2 e 4) 31 ∧ R.1 - 1 ≤ la ∧ la ≤ 31 := ⟨_, rfl, by omega, by omega⟩
            obtain ⟨la, la1, la2, la3⟩ := hlast
            rw [← la1] at hK' ⊢
            have g1 : ∀ x g : Int, x ≠ e → gt (stc R.2 e 8 la) x g = gt R.2 x g := fun x g r => by rw [gt_stc, if_neg (fun s => r s.1)]
            have g7 : gt (stc R.2 e 8 la) e 7 = y.1 := by rw [gt_stc, if_neg (by omega), i2 e hen, hc17]
            have g3 : gt (stc R.2 e 8 la) e 3 = 1 := by rw [gt_stc, if_neg (by omega), i2 e hen, hc13]
            have g8 : gt (stc R.2 e 8 la) e 8 = la := by rw [gt_stc, if_pos ⟨rfl, rfl, hr.1, hr.2, by omega, by omega⟩]
            have hpar : ∀ d ∈ dfs A l e, A (23 * d + 2) = e ∨ (A (23 * d + 2) ∈ dfs A l e ∧ A (23 * d + 2) ≠ e) := fun d hd => by
              rcases dfs_par l e d hd with q | q
              · exact Or.inl q
              · exact Or.inr ⟨q, hne _ q⟩
            have hpa : ∀ d ∈ dfs A l e, A (23 * d + 2) ≠ a := fun d hd q => by
              have ht := (dfs_th hs l e d hd).1
              have hbh := (dfs_th hs l e d hd).2 hr.1
              rcases hpar d hd with u | ⟨u, -⟩
              · rw [u] at q
                rcases le_rec hs h1 with ⟨w1, w2⟩ | ⟨w1, w2⟩
                · have := hr.1
                  omega
                · rw [h2, ← q] at w2
                  omega
              · rw [q] at u
                have u1 := dfs_th hs l e a u
                have u2 := bh_ke' hs u1.1 h1 (u1.2 hr.1)
                rcases ke_rec hs h1 with ⟨w1, -⟩ | ⟨w1, w2, w3⟩
                · rw [h2] at w1
                  have := u1.1.1
                  omega
                · rw [h2] at w2
                  omega
            refine ⟨⟨⟨by dsimp only; omega, by dsimp only; omega⟩, fun d hd ho => ?_, fun d hd ho hbd => ?_, fun d hd d' hd' hdd ho hbd ho' hbd' hp => ?_⟩, hK', fun x hx g => ?_⟩
            · rcases List.mem_cons.mp hd with q | q
              · rw [q]
                exact Or.inl h2
              · right
                dsimp only at ho ⊢
                rw [g1 d 3 (hne d q)] at ho
                rcases hpar d q with u | ⟨u, u2⟩
                · rw [u]
                  exact ⟨List.mem_cons_self, g3⟩
                · refine ⟨List.mem_cons_of_mem _ u, ?_⟩
                  rw [g1 _ 3 u2]
                  exact ((r3 d q ho).resolve_left u2).2
            · dsimp only at ho ⊢
              rcases List.mem_cons.mp hd with q | q
              · rw [q, g7, g8]
                exact ⟨by omega, fun hp => absurd h2 hp⟩
              · rw [g1 d 3 (hne d q)] at ho
                obtain ⟨u1, u2⟩ := r4 d q ho hbd
                rw [g1 d 7 (hne d q), g1 d 8 (hne d q)]
                refine ⟨by omega, fun _ => ?_⟩
                rcases hpar d q with u | ⟨u, u3⟩
                · rw [u, g7, g8]
                  omega
                · rw [g1 _ 7 u3, g1 _ 8 u3]
                  exact u2 u3
            · dsimp only at ho ho' ⊢
              rcases List.mem_cons.mp hd with q | q
              · rcases List.mem_cons.mp hd' with q' | q'
                · exact absurd (by rw [q, q']) hdd
                · rw [q, h2] at hp
                  exact absurd hp.symm (hpa d' q')
              · rcases List.mem_cons.mp hd' with q' | q'
                · rw [q', h2] at hp
                  exact absurd hp (hpa d q)
                · rw [g1 d 3 (hne d q)] at ho
                  rw [g1 d' 3 (hne d' q')] at ho'
                  rw [g1 d 7 (hne d q), g1 d 8 (hne d q), g1 d' 7 (hne d' q'), g1 d' 8 (hne d' q')]
                  exact r5 d q d' q' hdd ho hbd ho' hbd' hp
            · have hxe : x ≠ e := fun r => hx (by rw [r]; exact List.mem_cons_self)
              dsimp only
              rw [g1 x g hxe, i2 x (fun r => hx (List.mem_cons_of_mem _ r)), hc1g x g hxe]
          · rw [if_neg hx] at eG1
            rw [eG1]
            exact ⟨RgQ_off hy.2 hoff, hK, fun _ _ _ => rfl⟩
        · rw [if_neg hb] at hoff ⊢
          have eG1 : nbG (nbS w n l) y e = (y.1, stc y.2 e 3 1) := if_neg (by omega)
          rw [eG1] at hK' ⊢
          refine ⟨⟨⟨Int.le_refl _, hy.2⟩, fun d hd _ => ?_, fun d hd _ hbd => ?_, fun d hd d' hd' hdd _ _ _ _ _ => ?_⟩, hK', fun x hx g => ?_⟩
          · rw [List.mem_singleton.mp hd]
            exact Or.inl h2
          · rw [List.mem_singleton.mp hd] at hbd
            exact absurd hbd hb
          · exact absurd (by rw [List.mem_singleton.mp hd, List.mem_singleton.mp hd']) hdd
          · dsimp only
            rw [gt_stc, if_neg (fun s => hx (List.mem_singleton.mpr s.1))]
    have loop : ∀ (m' : Nat) (i : Int) (L : List Int) (f : Int) (y : zNB), (∀ d ∈ L, ∀ u ∈ (rgL i m').flatMap (slL A l a), d ≠ u) → 1 ≤ f → RgQ A a f L y → NbK y.2 c0 → (∀ d ∈ (rgL i m').flatMap (slL A l a), gt y.2 d 3 ≠ 1) → List.Pairwise (fun x y => keM A x < keM A y) ((rgL i m').flatMap (slL A l a)) → RgQ A a f (L ++ (rgL i m').flatMap (slL A l a)) ((rgL i m').foldl (nbL (nbS w n l) A a) y) ∧ ∀ e, e ∉ (rgL i m').flatMap (slL A l a) → ∀ g : Int, gt ((rgL i m').foldl (nbL (nbS w n l) A a) y).2 e g = gt y.2 e g := by
      intro m'
      induction m' with
      | zero =>
        intro i L f y _ _ h _ _ _
        refine ⟨?_, fun _ _ _ => rfl⟩
        show RgQ A a f (L ++ []) y
        rw [List.append_nil]
        exact h
      | succ m' ih =>
        intro i L f y hdis hf h hK hoff hpw
        simp only [rgL, List.flatMap_cons] at hdis hoff hpw ⊢
        obtain ⟨pw1, pw2, pw3⟩ := List.pairwise_append.mp hpw
        have hy1 := h.1
        obtain ⟨s1, s2, s3⟩ := slot i y (by omega) hK (fun d hd => hoff d (List.mem_append_left _ hd)) pw1
        have h2 := RgQ_app h (fun d hd g => s3 d (fun r => hdis d hd d (List.mem_append_left _ r) rfl) g) s1
        obtain ⟨t1, t2⟩ := ih (i + 1) (L ++ slL A l a i) f (nbL (nbS w n l) A a y i) (fun d hd u hu => by
          rcases List.mem_append.mp hd with q | q
          · exact hdis d q u (List.mem_append_right _ hu)
          · intro r
            have := pw3 d q u hu
            rw [r] at this
            omega) hf h2 s2 (fun d hd => by
          rw [s3 d (fun r => by
            have := pw3 d r d hd
            omega)]
          exact hoff d (List.mem_append_right _ hd)) pw2
        rw [List.append_assoc] at t1
        rw [List.foldl_cons]
        refine ⟨t1, fun x hx g => ?_⟩
        rw [t2 x (fun r => hx (List.mem_append_right _ r)), s3 x (fun r => hx (List.mem_append_left _ r))]
    obtain ⟨t1, t2⟩ := loop 8 0 [] y.1 y (fun d hd => absurd hd List.not_mem_nil) hy.1 (RgQ_off hy.2 (fun e he => absurd he List.not_mem_nil)) hK hd (dfs_pw hs (l + 1) a ha)
    rw [hfold]
    exact ⟨t1, t2⟩
end EJ
