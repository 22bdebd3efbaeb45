/-! NUMBERING: the class's as a walk over slots -/
section EH
variable {c c' A B w o : Int → Int} {e f a b k t x y v n d i q : Int}
theorem lp_fl {S : Type} {F : Int → S → S} : ∀ (m : Nat) (i : Int) (s : S), lp F m i s = (rgL i m).foldl (fun s i => F i s) s
  | 0, _, _ => rfl
  | m + 1, i, s => by
    simp only [lp, rgL, List.foldl_cons]
    exact lp_fl m (i + 1) (F i s)
theorem fl_flat {S : Type} {G : S → Int → S} {g : Int → List Int} : ∀ (l : List Int) (s : S), (l.flatMap g).foldl G s = l.foldl (fun s x => (g x).foldl G s) s
  | [], _ => rfl
  | x :: l, s => by
    rw [List.flatMap_cons, List.foldl_append, List.foldl_cons]
    exact fl_flat l _
/-- a loop that looks at some alone -/
theorem fl_filter {S : Type} {F G : S → Int → S} {P : S → Prop} {p : Int → Bool} : ∀ (l : List Int) (s : S), (∀ s, ∀ x ∈ l, P s → F s x = if p x = true then G s x else s) → (∀ s, ∀ x ∈ l, P s → P (G s x)) → P s → l.foldl F s = (l.filter p).foldl G s
  | [], _, _, _, _ => rfl
  | x :: l, s, h1, h2, h3 => by
    have h4 := h1 s x List.mem_cons_self h3
    rw [List.foldl_cons, h4]
    by_cases q : p x = true
    · rw [if_pos q, List.filter_cons_of_pos q, List.foldl_cons]
      exact fl_filter l _ (fun s y hy => h1 s y (List.mem_cons_of_mem _ hy)) (fun s y hy => h2 s y (List.mem_cons_of_mem _ hy)) (h2 s x List.mem_cons_self h3)
    · rw [if_neg q, List.filter_cons_of_neg q]
      exact fl_filter l _ (fun s y hy => h1 s y (List.mem_cons_of_mem _ hy)) (fun s y hy => h2 s y (List.mem_cons_of_mem _ hy)) h3
theorem fl_keep {S : Type} {F : S → Int → S} {P : S → Prop} : ∀ (l : List Int) (s : S), (∀ s, ∀ x ∈ l, P s → P (F s x)) → P s → P (l.foldl F s)
  | [], _, _, h => h
  | x :: l, s, h1, h => fl_keep l _ (fun s y hy => h1 s y (List.mem_cons_of_mem _ hy)) (h1 s x List.mem_cons_self h)
/-- what is in the slots of a bus -/
def kdL (A : Int → Int) (a s : Int) : List Int := if pM A a s = -1 then [] else [pM A a s]
theorem mem_kdL : x ∈ kdL A a i ↔ thM A x ∧ pM A a i = x := by
  unfold kdL
  rcases pM_cases A a i with h | ⟨h1, h2, h3⟩
  · rw [if_pos h]
    constructor
    · intro q
      exact absurd q List.not_mem_nil
    · rintro ⟨q1, q2⟩
      rw [h] at q2
      have := q1.1
      omega
  · have hn : ¬ pM A a i = -1 := by have := h1.1; omega
    rw [if_neg hn, List.mem_singleton]
    constructor
    · intro q
      rw [q]
      exact ⟨h1, rfl⟩
    · exact fun q => q.2.symm
theorem kids_eq (hs : gS A) (hF : WkF A w n) : (lsO w n).filter (fun e => decide (A (23 * e + 2) = a)) = (rgL 0 8).flatMap (kdL A a) := by
  refine pw_uniq (k := keM A) _ _ (List.Pairwise.filter _ (pw_lsO hF.2.1)) ?_ (fun x => ?_)
  · refine pw_flat _ (fun s _ => ?_) (List.Pairwise.imp ?_ (pw_rgL 8 0))
    · unfold kdL
      split
      · exact List.Pairwise.nil
      · exact List.pairwise_singleton ..
    · intro s r hsr u hu v hv
      obtain ⟨u1, u2⟩ := mem_kdL.mp hu
      obtain ⟨v1, v2⟩ := mem_kdL.mp hv
      rcases pM_cases A a s with h | ⟨h1, h2, h3⟩
      · have := u1.1
        omega
      · rcases pM_cases A a r with g | ⟨g1, g2, g3⟩
        · have := v1.1
          omega
        · rw [u2] at h2 h3
          rw [v2] at g2 g3
          exact (ke_slot hs u1 v1 (by rw [h2, g2])).mpr (by omega)
  · rw [List.mem_filter, mem_lsO, hF.2.2, List.mem_flatMap]
    constructor
    · rintro ⟨q1, q2⟩
      have q2 := of_decide_eq_true q2
      have hsl := sl_rg hs q1
      exact ⟨A (23 * x + 3), (mem_rgL _ _ _).mpr ⟨hsl.1, by omega⟩, mem_kdL.mpr ⟨q1, by rw [← q2]; exact pM_of hs q1⟩⟩
    · rintro ⟨s, -, h⟩
      obtain ⟨h1, h2⟩ := mem_kdL.mp h
      rcases pM_cases A a s with g | ⟨g1, g2, g3⟩
      · have := h1.1
        omega
      · rw [h2] at g2
        exact ⟨h1, decide_eq_true g2⟩
/-- one device numbered by the class -/
def nbG (rec : Int → Int → (Int → Int) → zNB) (y : zNB) (e : Int) : zNB := if gt y.2 e 0 = 2 then (if y.1 ≤ 31 then (min ((rec e (y.1 + 1) (stc (stc y.2 e 3 1) e 7 y.1)).1 - 1 + gt (rec e (y.1 + 1) (stc (stc y.2 e 3 1) e 7 y.1)).2 e 4) 31 + 1, stc (rec e (y.1 + 1) (stc (stc y.2 e 3 1) e 7 y.1)).2 e 8 (min ((rec e (y.1 + 1) (stc (stc y.2 e 3 1) e 7 y.1)).1 - 1 + gt (rec e (y.1 + 1) (stc (stc y.2 e 3 1) e 7 y.1)).2 e 4) 31)) else y) else (y.1, stc y.2 e 3 1)
/-- numbering leaves the tree's shape -/
def NbK (c c0 : Int → Int) : Prop := ∀ e f : Int, f ≠ 3 → f ≠ 7 → f ≠ 8 → gt c e f = gt c0 e f
theorem NbK_stc (h : NbK c c') (hf : f = 3 ∨ f = 7 ∨ f = 8) : NbK (stc c e f v) c' := fun x g g1 g2 g3 => by
  rw [gt_stc, if_neg (fun q => by omega)]
  exact h x g g1 g2 g3
theorem NbK_trans {c2 : Int → Int} (h : NbK c c') (h' : NbK c' c2) : NbK c c2 := fun x g g1 g2 g3 => by rw [h x g g1 g2 g3, h' x g g1 g2 g3]
theorem nbG_K {rec : Int → Int → (Int → Int) → zNB} (hr : ∀ e f c, NbK (rec e f c).2 c) (y : zNB) (e : Int) : NbK (nbG rec y e).2 y.2 := by
  unfold nbG
  split
  · split
    · refine NbK_stc (NbK_trans (hr _ _ _) (NbK_stc (NbK_stc (fun _ _ _ _ _ => rfl) (Or.inl rfl)) (Or.inr (Or.inl rfl)))) (Or.inr (Or.inr rfl))
    · exact fun _ _ _ _ _ => rfl
  · exact NbK_stc (fun _ _ _ _ _ => rfl) (Or.inl rfl)
theorem nbf_G {rec : Int → Int → (Int → Int) → zNB} (y : zNB) : nbf w n rec a i y = if gt y.2 (wka w n i) 1 = a then nbG rec y (wka w n i) else y := rfl
theorem nbS_K : ∀ (l : Nat) (a f : Int) (c : Int → Int), NbK (nbS w n l a f c).2 c
  | 0, _, _, _ => fun _ _ _ _ _ => rfl
  | l + 1, a, f, c => by
    refine lp_keep (P := fun y : zNB => NbK y.2 c) (fun i y hy => ?_) n.toNat 0 (f, c) (fun _ _ _ _ _ => rfl)
    rw [nbf_G]
    split
    · exact NbK_trans (nbG_K (nbS_K l) y _) hy
    · exact hy
/-- the class numbers a bus slot by slot -/
def nbL (rec : Int → Int → (Int → Int) → zNB) (A : Int → Int) (a : Int) (y : zNB) (s : Int) : zNB := if pM A a s = -1 then y else nbG rec y (pM A a s)
theorem nb_fold (hs : gS A) (hF : WkF A w n) (hc : ∀ e, thM A e → gt c e 1 = A (23 * e + 2)) (l : Nat) : nbS w n (l + 1) a f c = (rgL 0 8).foldl (nbL (nbS w n l) A a) (f, c) := by
  have e1 : nbS w n (l + 1) a f c = lp (nbf w n (nbS w n l) a) n.toNat 0 (f, c) := rfl
  rw [e1, lp_fl]
  have e2 : (rgL 0 n.toNat).foldl (fun s i => nbf w n (nbS w n l) a i s) (f, c) = (lsO w n).foldl (fun y e => if gt y.2 e 1 = a then nbG (nbS w n l) y e else y) (f, c) := by
    unfold lsO
    rw [List.foldl_map]
    have key : ∀ (L : List Int) (s : zNB), (∀ i ∈ L, wka w n i = w i) → L.foldl (fun s i => nbf w n (nbS w n l) a i s) s = L.foldl (fun y i => if gt y.2 (w i) 1 = a then nbG (nbS w n l) y (w i) else y) s := by
      intro L
      induction L with
      | nil => exact fun _ _ => rfl
      | cons i L ih =>
        intro s h
        rw [List.foldl_cons, List.foldl_cons, nbf_G, h i List.mem_cons_self]
        exact ih _ (fun j hj => h j (List.mem_cons_of_mem _ hj))
    refine key _ _ (fun i hi => ?_)
    have hi := (mem_rgL _ _ _).mp hi
    have := hF.1
    unfold wka
    rw [if_pos ⟨hi.1, by omega, by omega⟩]
  rw [e2, fl_filter (G := nbG (nbS w n l)) (P := fun y => NbK y.2 c) (p := fun e => decide (A (23 * e + 2) = a)) _ _ (fun y e he hy => ?_) (fun y e he hy => NbK_trans (nbG_K (nbS_K l) y e) hy) (fun _ _ _ _ _ => rfl), kids_eq hs hF, fl_flat]
  · have key : ∀ (L : List Int) (s : zNB), L.foldl (fun s x => (kdL A a x).foldl (nbG (nbS w n l)) s) s = L.foldl (nbL (nbS w n l) A a) s := by
      intro L
      induction L with
      | nil => exact fun _ => rfl
      | cons x L ih =>
        intro s
        rw [List.foldl_cons, List.foldl_cons, ih]
        congr 1
        unfold kdL nbL
        split <;> rfl
    exact key _ _
  · obtain ⟨j, j0, j1, j2⟩ := mem_lsO.mp he
    have hth := (hF.2.2 e).mp ⟨j, j0, j1, j2⟩
    have h1 := hc e hth
    rw [hy e 1 (by omega) (by omega) (by omega), h1]
    by_cases q : A (23 * e + 2) = a
    · rw [if_pos q, if_pos (decide_eq_true q)]
    · rw [if_neg q, if_neg (by rw [decide_eq_false q]; decide)]
end EH
