/-! THE WALK as a list: into the depth, slot by slot -/
section DF
variable {A B : Int → Int} {e f a b p x : Int}
/-- numbers from i on -/
def rgL (i : Int) : Nat → List Int
  | 0 => []
  | n + 1 => i :: rgL (i + 1) n
theorem mem_rgL : ∀ (n : Nat) (i x : Int), x ∈ rgL i n ↔ i ≤ x ∧ x < i + n
  | 0, i, x => by
    simp only [rgL, List.not_mem_nil, false_iff]
    omega
  | n + 1, i, x => by
    simp only [rgL, List.mem_cons, mem_rgL n (i + 1) x]
    omega
/-- who is in a slot -/
def pM (A : Int → Int) (a s : Int) : Int := ff (isM A a s) 20 0
theorem pM_cases (A : Int → Int) (a s : Int) : pM A a s = -1 ∨ (thM A (pM A a s) ∧ A (23 * pM A a s + 2) = a ∧ A (23 * pM A a s + 3) = s) := by
  rcases ff_cases (isM A a s) 20 0 with h | ⟨-, -, h⟩
  · exact Or.inl h
  · exact Or.inr (of_decide_eq_true h)
theorem pM_of (hs : gS A) (ht : thM A e) : pM A (A (23 * e + 2)) (A (23 * e + 3)) = e := by
  have hr := th_rg ht
  rcases pM_cases A (A (23 * e + 2)) (A (23 * e + 3)) with h | ⟨h1, h2, h3⟩
  · have := ff_none 20 0 (by omega) h e hr.1 (by omega)
    unfold isM at this
    exact absurd ⟨ht, rfl, rfl⟩ (of_decide_eq_false this)
  · exact hs.2.2 _ _ h1 ht h2 h3
/-- the walk of a bus -/
def dfs (A : Int → Int) : Nat → Int → List Int
  | 0, _ => []
  | n + 1, a => (rgL 0 8).flatMap (fun s => if pM A a s = -1 then [] else pM A a s :: (if A (23 * pM A a s + 1) = 1 then dfs A n (pM A a s) else []))
theorem mem_dfs (n : Nat) : x ∈ dfs A (n + 1) a ↔ ∃ p, thM A p ∧ A (23 * p + 2) = a ∧ (0 ≤ A (23 * p + 3) ∧ A (23 * p + 3) ≤ 7) ∧ pM A a (A (23 * p + 3)) = p ∧ (x = p ∨ (A (23 * p + 1) = 1 ∧ x ∈ dfs A n p)) := by
  simp only [dfs, List.mem_flatMap, mem_rgL]
  constructor
  · rintro ⟨s, hs, hx⟩
    rcases pM_cases A a s with h | ⟨h1, h2, h3⟩
    · rw [if_pos h] at hx
      exact absurd hx List.not_mem_nil
    · have hn : ¬ pM A a s = -1 := by have := h1.1; omega
      rw [if_neg hn, List.mem_cons] at hx
      refine ⟨pM A a s, h1, h2, by omega, by rw [h3], hx.imp id (fun q => ?_)⟩
      by_cases c : A (23 * pM A a s + 1) = 1
      · rw [if_pos c] at q
        exact ⟨c, q⟩
      · rw [if_neg c] at q
        exact absurd q List.not_mem_nil
  · rintro ⟨p, h1, h2, h3, h4, hx⟩
    refine ⟨A (23 * p + 3), by omega, ?_⟩
    have hn : ¬ p = -1 := by have := h1.1; omega
    rw [h4, if_neg hn, List.mem_cons]
    refine hx.imp id (fun q => ?_)
    rw [if_pos q.1]
    exact q.2
/-- what is on the walk of a bus is there, and behind the bus -/
theorem dfs_th (hs : gS A) : ∀ (n : Nat) (a x : Int), x ∈ dfs A n a → thM A x ∧ (0 ≤ a → bhM A x a = true)
  | 0, a, x, h => absurd h List.not_mem_nil
  | n + 1, a, x, h => by
    obtain ⟨p, h1, h2, h3, h4, hx⟩ := (mem_dfs n).mp h
    rcases hx with rfl | ⟨hb, hx⟩
    · refine ⟨h1, fun ha => ?_⟩
      rcases bh_rec (e := a) hs h1 with ⟨q, q1⟩ | ⟨q, q1⟩
      · omega
      · rw [q1, h2, decide_eq_true rfl]
        rfl
    · obtain ⟨i1, i2⟩ := dfs_th hs n p x hx
      refine ⟨i1, fun ha => ?_⟩
      have hbx := i2 h1.1
      have key : ∀ (m : Nat) (x : Int), thM A x → leM A x ≤ m → bhM A x p = true → bhM A x a = true := by
        intro m
        induction m with
        | zero =>
          intro x hx hl hb'
          rcases bh_rec (e := p) hs hx with ⟨q, q1⟩ | ⟨q, q1⟩
          · rw [q1] at hb'
            exact absurd hb' (by decide)
          · have := bh_ke' hs hx h1 hb'
            have := le_bd A p
            omega
        | succ m ih =>
          intro x hx hl hb'
          rcases bh_rec (e := p) hs hx with ⟨q, q1⟩ | ⟨q, q1⟩
          · rw [q1] at hb'
            exact absurd hb' (by decide)
          · rcases bh_rec (e := a) hs hx with ⟨r, r1⟩ | ⟨r, r1⟩
            · have := q.1.1
              omega
            · rw [r1]
              rw [q1] at hb'
              by_cases c : p = A (23 * x + 2)
              · rw [← c]
                rcases bh_rec (e := a) hs h1 with ⟨s, s1⟩ | ⟨s, s1⟩
                · omega
                · rw [s1, h2, decide_eq_true rfl]
                  simp
              · rw [decide_eq_false c, Bool.false_or] at hb'
                have hle := le_rec hs hx
                have := q.1.1
                rw [ih _ q.1 (by omega) hb']
                simp
      exact key 4 x i1 (le_bd A x).2 hbx
/-- keys of the walk of a bus -/
theorem dfs_lb (hs : gS A) (n : Nat) (hx : x ∈ dfs A n a) (ha : a = -1 ∨ thM A a) : (a = -1 → 0 < keM A x ∧ keM A x < 59049) ∧ (0 ≤ a → keM A a < keM A x ∧ keM A x < keM A a + uN A a) := by
  obtain ⟨h1, h2⟩ := dfs_th hs n a x hx
  have hk := ke_ok' hs h1
  have hu := uN_cases A x
  refine ⟨fun q => by omega, fun q => ?_⟩
  have := bh_ke' hs h1 (ha.resolve_left (by omega)) (h2 q)
  omega
theorem pw_flat {α β : Type} {R : β → β → Prop} {g : α → List β} : ∀ (l : List α), (∀ x ∈ l, List.Pairwise R (g x)) → List.Pairwise (fun x y => ∀ u ∈ g x, ∀ v ∈ g y, R u v) l → List.Pairwise R (l.flatMap g)
  | [], _, _ => List.Pairwise.nil
  | x :: l, h1, h2 => by
    rw [List.flatMap_cons, List.pairwise_append]
    obtain ⟨h3, h4⟩ := List.pairwise_cons.mp h2
    refine ⟨h1 x List.mem_cons_self, pw_flat l (fun y hy => h1 y (List.mem_cons_of_mem _ hy)) h4, fun u hu v hv => ?_⟩
    obtain ⟨y, hy, hv⟩ := List.mem_flatMap.mp hv
    exact h3 y hy u hu v hv
theorem pw_rgL : ∀ (n : Nat) (i : Int), List.Pairwise (fun x y => x < y) (rgL i n)
  | 0, _ => List.Pairwise.nil
  | n + 1, i => by
    refine List.Pairwise.cons (fun x hx => ?_) (pw_rgL n (i + 1))
    have := (mem_rgL n (i + 1) x).mp hx
    omega
/-- the walk of a bus is in the order of keys -/
theorem dfs_pw (hs : gS A) : ∀ (n : Nat) (a : Int), (a = -1 ∨ thM A a) → List.Pairwise (fun x y => keM A x < keM A y) (dfs A n a)
  | 0, _, _ => List.Pairwise.nil
  | n + 1, a, ha => by
    have memS : ∀ s x, x ∈ (if pM A a s = -1 then [] else pM A a s :: (if A (23 * pM A a s + 1) = 1 then dfs A n (pM A a s) else [])) → thM A (pM A a s) ∧ A (23 * pM A a s + 2) = a ∧ A (23 * pM A a s + 3) = s ∧ keM A (pM A a s) ≤ keM A x ∧ keM A x < keM A (pM A a s) + uN A (pM A a s) := by
      intro s x hx
      rcases pM_cases A a s with h | ⟨h1, h2, h3⟩
      · rw [if_pos h] at hx
        exact absurd hx List.not_mem_nil
      · have hn : ¬ pM A a s = -1 := by have := h1.1; omega
        rw [if_neg hn, List.mem_cons] at hx
        refine ⟨h1, h2, h3, ?_⟩
        have hu := uN_cases A (pM A a s)
        rcases hx with hx | hx
        · rw [hx]
          omega
        · by_cases c : A (23 * pM A a s + 1) = 1
          · rw [if_pos c] at hx
            have := (dfs_lb hs n hx (Or.inr h1)).2 h1.1
            omega
          · rw [if_neg c] at hx
            exact absurd hx List.not_mem_nil
    rw [dfs]
    refine pw_flat _ (fun s _ => ?_) ?_
    · rcases pM_cases A a s with h | ⟨h1, h2, h3⟩
      · rw [if_pos h]
        exact List.Pairwise.nil
      · have hn : ¬ pM A a s = -1 := by have := h1.1; omega
        rw [if_neg hn]
        by_cases c : A (23 * pM A a s + 1) = 1
        · rw [if_pos c]
          exact List.Pairwise.cons (fun x hx => ((dfs_lb hs n hx (Or.inr h1)).2 h1.1).1) (dfs_pw hs n _ (Or.inr h1))
        · rw [if_neg c]
          exact List.Pairwise.cons (fun x hx => absurd hx List.not_mem_nil) List.Pairwise.nil
    · refine List.Pairwise.imp ?_ (pw_rgL 8 0)
      intro s r hsr u hu v hv
      obtain ⟨a1, a2, a3, a4, a5⟩ := memS s u hu
      obtain ⟨b1, b2, b3, b4, b5⟩ := memS r v hv
      have cu := uN_cases A (pM A a s)
      have cv := uN_cases A (pM A a r)
      rcases ke_rec hs a1 with ⟨k0, k1, k2⟩ | ⟨k0, k1, k2⟩ <;> rcases ke_rec hs b1 with ⟨m0, m1, m2⟩ | ⟨m0, m1, m2⟩
      · rw [a3] at k2
        rw [b3] at m2
        rw [show uN A (pM A a s) = 6561 by omega] at k2 a5
        rw [show uN A (pM A a r) = 6561 by omega] at m2 b5
        omega
      · have := m0.1.1
        omega
      · have := k0.1.1
        omega
      · rw [a2, a3] at k2
        rw [b2, b3] at m2
        rw [a2] at k1
        rw [b2] at m1
        have hu' : uN A (pM A a r) = uN A (pM A a s) := by omega
        rw [hu'] at m2
        have h0 := sl_rg hs a1
        have h0' := sl_rg hs b1
        rw [a3] at h0
        rw [b3] at h0'
        rcases cu with ⟨c0, c1⟩ | ⟨c0, c1⟩ | ⟨c0, c1⟩ | ⟨c0, c1⟩ | ⟨c0, c1⟩ <;> rw [c1] at k2 m2 a5 <;> omega
/-- with one on the walk, what is on its bus -/
theorem dfs_kid (hs : gS A) : ∀ (n : Nat) (a p : Int), p ∈ dfs A n a → brM A p → (a = -1 ∨ thM A a) → leM A p + 1 < lbM A a + n → ∀ e, thM A e → A (23 * e + 2) = p → e ∈ dfs A n a
  | 0, a, p, h, _, _, _, _, _, _ => absurd h List.not_mem_nil
  | n + 1, a, p, h, hb, ha, hl, e, he, hat => by
    obtain ⟨q, h1, h2, h3, h4, hx⟩ := (mem_dfs n).mp h
    have hlq : leM A q = lbM A a := by
      unfold lbM
      rcases le_rec hs h1 with ⟨r, r1⟩ | ⟨r, r1⟩
      · rw [if_pos (by omega)]
        exact r1
      · rw [if_neg (by have := r.1.1; omega), r1, h2]
    refine (mem_dfs n).mpr ⟨q, h1, h2, h3, h4, Or.inr ?_⟩
    rcases hx with rfl | ⟨hbq, hx⟩
    · refine ⟨hb.2, ?_⟩
      match n, hl with
      | 0, hl => omega
      | n + 1, hl => exact (mem_dfs n).mpr ⟨e, he, hat, sl_rg hs he, by rw [← hat]; exact pM_of hs he, Or.inl rfl⟩
    · refine ⟨hbq, dfs_kid hs n q p hx hb (Or.inr h1) ?_ e he hat⟩
      have : lbM A q = leM A q + 1 := if_neg (by have := h1.1; omega)
      omega
/-- all that are there are on the walk -/
theorem dfs_all (hs : gS A) : ∀ (m : Nat) (e : Int), thM A e → leM A e ≤ m → e ∈ dfs A 5 (-1)
  | m, e, he, hl => by
    rcases le_rec hs he with ⟨r, r1⟩ | ⟨r, r1⟩
    · exact (mem_dfs 4).mpr ⟨e, he, r, sl_rg hs he, by rw [← r]; exact pM_of hs he, Or.inl rfl⟩
    · have hb := le_bd A e
      have hb2 := le_bd A (A (23 * e + 2))
      match m, hl with
      | 0, hl => omega
      | m + 1, hl =>
        refine dfs_kid hs 5 (-1) _ (dfs_all hs m _ r.1 (by omega)) r (Or.inl rfl) ?_ e he rfl
        have : lbM A (-1) = 0 := if_pos rfl
        omega
theorem dfs_iff (hs : gS A) : e ∈ dfs A 5 (-1) ↔ thM A e := ⟨fun h => (dfs_th hs 5 _ e h).1, fun h => dfs_all hs 4 e h (le_bd A e).2⟩
/-- two strictly ordered lists of the same members are one -/
theorem pw_uniq {k : Int → Int} : ∀ (l m : List Int), List.Pairwise (fun x y => k x < k y) l → List.Pairwise (fun x y => k x < k y) m → (∀ x, x ∈ l ↔ x ∈ m) → l = m
  | [], [], _, _, _ => rfl
  | [], y :: m, _, _, h => absurd ((h y).mpr List.mem_cons_self) List.not_mem_nil
  | x :: l, [], _, _, h => absurd ((h x).mp List.mem_cons_self) List.not_mem_nil
  | x :: l, y :: m, h1, h2, h => by
    obtain ⟨a1, a2⟩ := List.pairwise_cons.mp h1
    obtain ⟨b1, b2⟩ := List.pairwise_cons.mp h2
    have hxy : x = y := by
      rcases List.mem_cons.mp ((h x).mp List.mem_cons_self) with q | q
      · exact q
      · rcases List.mem_cons.mp ((h y).mpr List.mem_cons_self) with r | r
        · exact r.symm
        · have := b1 x q
          have := a1 y r
          omega
    subst hxy
    refine congrArg _ (pw_uniq l m a2 b2 (fun z => ?_))
    have hz := h z
    simp only [List.mem_cons] at hz
    constructor
    · intro q
      rcases hz.mp (Or.inr q) with r | r
      · have := a1 z q
        rw [r] at this
        omega
      · exact r
    · intro q
      rcases hz.mpr (Or.inr q) with r | r
      · have := b1 z q
        rw [r] at this
        omega
      · exact r
/-- a row as a list -/
def lsO (o : Int → Int) (n : Int) : List Int := (rgL 0 n.toNat).map o
theorem mem_lsO {o : Int → Int} {n : Int} : x ∈ lsO o n ↔ ∃ i : Int, 0 ≤ i ∧ i < n ∧ o i = x := by
  unfold lsO
  simp only [List.mem_map, mem_rgL]
  constructor
  · rintro ⟨i, h, rfl⟩
    exact ⟨i, by omega, by omega, rfl⟩
  · rintro ⟨i, h1, h2, rfl⟩
    exact ⟨i, by omega, rfl⟩
theorem pw_lsO {o : Int → Int} {n : Int} {k : Int → Int} (h : ∀ i j : Int, 0 ≤ i → i < j → j < n → k (o i) < k (o j)) : List.Pairwise (fun x y => k x < k y) (lsO o n) := by
  unfold lsO
  rw [List.pairwise_map]
  refine List.Pairwise.imp_of_mem ?_ (pw_rgL n.toNat 0)
  intro i j hi hj hij
  have := (mem_rgL _ _ _).mp hi
  have := (mem_rgL _ _ _).mp hj
  exact h i j (by omega) hij (by omega)
/-- putting one in -/
theorem inW_ok {k : Nat} : ∀ (o : Int → Int), (∀ i j : Int, 0 ≤ i → i < j → j < k → keM A (o i) < keM A (o j)) → (∀ i : Int, 0 ≤ i → i < k → keM A (o i) ≠ keM A e) → (∀ i j : Int, 0 ≤ i → i < j → j ≤ k → keM A (inW A e k o i) < keM A (inW A e k o j)) ∧ ∀ x, (∃ i : Int, 0 ≤ i ∧ i ≤ k ∧ inW A e k o i = x) ↔ (x = e ∨ ∃ i : Int, 0 ≤ i ∧ i < k ∧ o i = x) := by
  induction k with
  | zero =>
    intro o _ _
    refine ⟨fun i j h0 h1 h2 => by omega, fun x => ?_⟩
    rw [inW]
    constructor
    · rintro ⟨i, h0, h1, h2⟩
      rw [show i = 0 by omega, ups_at] at h2
      exact Or.inl h2.symm
    · rintro (h | ⟨i, h0, h1, _⟩)
      · exact ⟨0, by omega, by omega, by rw [ups_at, h]⟩
      · omega
  | succ k ih =>
    intro o hs hd
    simp only [inW]
    by_cases c : keM A e < keM A (o (k : Nat))
    · rw [if_pos c]
      have hk : ∀ i : Int, 0 ≤ i → i < k → ups o ((k : Nat) + 1) (o (k : Nat)) i = o i := fun i h0 h1 => ups_ne _ _ (by omega)
      obtain ⟨i1, i2⟩ := ih (ups o ((k : Nat) + 1) (o (k : Nat))) (fun i j h0 h1 h2 => by rw [hk i h0 (by omega), hk j (by omega) h2]; exact hs i j h0 h1 (by omega)) (fun i h0 h1 => by rw [hk i h0 h1]; exact hd i h0 (by omega))
      have htop : inW A e k (ups o ((k : Nat) + 1) (o (k : Nat))) ((k : Int) + 1) = o (k : Nat) := by rw [inW_far k _ _ (by omega), ups_at]
      have hlt : ∀ i : Int, 0 ≤ i → i ≤ k → keM A (inW A e k (ups o ((k : Nat) + 1) (o (k : Nat))) i) < keM A (o (k : Nat)) := fun i h0 h1 => by
        rcases (i2 _).mp ⟨i, h0, h1, rfl⟩ with q | ⟨j, j0, j1, q⟩
        · rw [q]
          exact c
        · rw [← q, hk j j0 j1]
          exact hs j k j0 j1 (by omega)
      refine ⟨fun i j h0 h1 h2 => ?_, fun x => ?_⟩
      · by_cases q : j = (k : Int) + 1
        · rw [q, htop]
          exact hlt i h0 (by omega)
        · exact i1 i j h0 h1 (by omega)
      · constructor
        · rintro ⟨i, h0, h1, h2⟩
          by_cases q : i = (k : Int) + 1
          · rw [q, htop] at h2
            exact Or.inr ⟨k, by omega, by omega, h2⟩
          · rcases (i2 x).mp ⟨i, h0, by omega, h2⟩ with r | ⟨j, j0, j1, r⟩
            · exact Or.inl r
            · exact Or.inr ⟨j, j0, by omega, by rw [← r, hk j j0 j1]⟩
        · rintro (h | ⟨i, h0, h1, h2⟩)
          · obtain ⟨i, h0, h1, h2⟩ := (i2 x).mpr (Or.inl h)
            exact ⟨i, h0, by omega, h2⟩
          · by_cases q : i = (k : Int)
            · exact ⟨(k : Int) + 1, by omega, by omega, by rw [htop, ← h2, q]⟩
            · obtain ⟨j, j0, j1, j2⟩ := (i2 x).mpr (Or.inr ⟨i, h0, by omega, by rw [hk i h0 (by omega)]; exact h2⟩)
              exact ⟨j, j0, by omega, j2⟩
    · rw [if_neg c]
      have hne := hd k (by omega) (by omega)
      have hk : ∀ i : Int, 0 ≤ i → i < (k : Int) + 1 → ups o ((k : Nat) + 1) e i = o i := fun i h0 h1 => ups_ne _ _ (by omega)
      refine ⟨fun i j h0 h1 h2 => ?_, fun x => ?_⟩
      · by_cases q : j = (k : Int) + 1
        · rw [q, ups_at, hk i h0 (by omega)]
          by_cases r : i = (k : Int)
          · rw [r]
            omega
          · have := hs i k h0 (by omega) (by omega)
            omega
        · rw [hk i h0 (by omega), hk j (by omega) (by omega)]
          exact hs i j h0 h1 (by omega)
      · constructor
        · rintro ⟨i, h0, h1, h2⟩
          by_cases q : i = (k : Int) + 1
          · rw [q, ups_at] at h2
            exact Or.inl h2.symm
          · rw [hk i h0 (by omega)] at h2
            exact Or.inr ⟨i, h0, by omega, h2⟩
        · rintro (h | ⟨i, h0, h1, h2⟩)
          · exact ⟨(k : Int) + 1, by omega, by omega, by rw [h]; exact ups_at _ _ _⟩
          · exact ⟨i, h0, by omega, by rw [hk i h0 (by omega)]; exact h2⟩
/-- the reference's walk: all that are there, in the order of keys -/
theorem lw_ok (hs : gS A) : ∀ (n : Nat) (i : Int) (y : (Int → Int) × Int), 0 ≤ i → 0 ≤ y.2 → (∀ u v : Int, 0 ≤ u → u < v → v < y.2 → keM A (y.1 u) < keM A (y.1 v)) → (∀ x, (∃ u : Int, 0 ≤ u ∧ u < y.2 ∧ y.1 u = x) ↔ (thM A x ∧ x < i)) → i + n = 20 → (∀ u v : Int, 0 ≤ u → u < v → v < (lp (lwM A) n i y).2 → keM A ((lp (lwM A) n i y).1 u) < keM A ((lp (lwM A) n i y).1 v)) ∧ (∀ x, (∃ u : Int, 0 ≤ u ∧ u < (lp (lwM A) n i y).2 ∧ (lp (lwM A) n i y).1 u = x) ↔ thM A x)
  | 0, i, y, h0, h1, h2, h3, h4 => ⟨h2, fun x => by
    rw [show lp (lwM A) 0 i y = y from rfl, h3 x]
    exact ⟨fun q => q.1, fun q => ⟨q, by have := q.2.1; omega⟩⟩⟩
  | n + 1, i, y, h0, h1, h2, h3, h4 => by
    simp only [lp]
    by_cases q : thM A i
    · have e1 : lwM A i y = (inW A i y.2.toNat y.1, y.2 + 1) := if_pos q
      have hy : ((y.2.toNat : Nat) : Int) = y.2 := by omega
      obtain ⟨i1, i2⟩ := inW_ok (A := A) (e := i) (k := y.2.toNat) y.1 (fun u v u0 u1 u2 => h2 u v u0 u1 (by omega)) (fun u u0 u1 hk => by
        obtain ⟨t1, t2⟩ := (h3 _).mp ⟨u, u0, by omega, rfl⟩
        have := ke_inj' hs t1 q hk
        omega)
      rw [e1]
      refine lw_ok hs n (i + 1) _ (by omega) (by dsimp only; omega) (fun u v u0 u1 u2 => i1 u v u0 u1 (by dsimp only at u2; omega)) (fun x => ?_) (by omega)
      dsimp only
      constructor
      · rintro ⟨u, u0, u1, u2⟩
        rcases (i2 x).mp ⟨u, u0, by omega, u2⟩ with r | ⟨j, j0, j1, r⟩
        · rw [r]
          exact ⟨q, by omega⟩
        · have := (h3 x).mp ⟨j, j0, by omega, r⟩
          exact ⟨this.1, by omega⟩
      · rintro ⟨r1, r2⟩
        by_cases c : x = i
        · obtain ⟨u, u0, u1, u2⟩ := (i2 x).mpr (Or.inl c)
          exact ⟨u, u0, by omega, u2⟩
        · obtain ⟨j, j0, j1, r⟩ := (h3 x).mpr ⟨r1, by omega⟩
          obtain ⟨u, u0, u1, u2⟩ := (i2 x).mpr (Or.inr ⟨j, j0, by omega, r⟩)
          exact ⟨u, u0, by omega, u2⟩
    · have e1 : lwM A i y = y := if_neg q
      rw [e1]
      refine lw_ok hs n (i + 1) y (by omega) h1 h2 (fun x => ?_) (by omega)
      rw [h3 x]
      constructor
      · exact fun r => ⟨r.1, by omega⟩
      · intro r
        refine ⟨r.1, ?_⟩
        have : x ≠ i := fun c => q (c ▸ r.1)
        omega
/-- THE WALK of 483 numbers is the walk into the depth -/
theorem wk_dfs (hs : gS A) : lsO (wkA A).1 (wkA A).2 = dfs A 5 (-1) := by
  obtain ⟨h1, h2⟩ := lw_ok hs 20 0 (fun _ => 0, 0) (by omega) (by dsimp only; omega) (fun u v u0 u1 u2 => by dsimp only at u2; omega) (fun x => by
    constructor
    · rintro ⟨u, u0, u1, _⟩
      dsimp only at u1
      omega
    · rintro ⟨r1, r2⟩
      have := r1.1
      omega) (by omega)
  refine pw_uniq (k := keM A) _ _ (pw_lsO h1) (dfs_pw hs 5 (-1) (Or.inl rfl)) (fun x => ?_)
  rw [mem_lsO, dfs_iff hs]
  exact h2 x
end DF
