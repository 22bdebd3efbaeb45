/-! NEEDS: what both sides lay out is one -/
section DG
variable {A B S P D S' P' D' c c' w N G N' G' : Int → Int} {on : Int → Bool} {e f a b k t x y v n d i : Int} {l l' : List Int}
/-- laid one behind another: the end; where each stands; the greatest step -/
def lyE (S P : Int → Int) : List Int → Int → Int
  | [], v => v
  | t :: l, v => lyE S P l (rupM v (P t) + S t)
def lyD (S P D : Int → Int) : List Int → Int → Prop
  | [], _ => True
  | t :: l, v => D t = rupM v (P t) ∧ lyD S P D l (rupM v (P t) + S t)
def lyG (P : Int → Int) : List Int → Int
  | [] => 0
  | t :: l => max (P t) (lyG P l)
theorem lyE_congr : ∀ (l : List Int) (v : Int), (∀ t ∈ l, S t = S' t ∧ P t = P' t) → lyE S P l v = lyE S' P' l v
  | [], _, _ => rfl
  | t :: l, v, h => by
    have h1 := h t List.mem_cons_self
    simp only [lyE]
    rw [h1.1, h1.2]
    exact lyE_congr l _ (fun u hu => h u (List.mem_cons_of_mem _ hu))
theorem lyG_congr : ∀ (l : List Int), (∀ t ∈ l, P t = P' t) → lyG P l = lyG P' l
  | [], _ => rfl
  | t :: l, h => by
    simp only [lyG]
    rw [h t List.mem_cons_self, lyG_congr l (fun u hu => h u (List.mem_cons_of_mem _ hu))]
theorem lyD_congr : ∀ (l : List Int) (v : Int), (∀ t ∈ l, S t = S' t ∧ P t = P' t ∧ D t = D' t) → lyD S P D l v → lyD S' P' D' l v
  | [], _, _, _ => trivial
  | t :: l, v, h, ⟨h1, h2⟩ => by
    obtain ⟨e1, e2, e3⟩ := h t List.mem_cons_self
    refine ⟨?_, ?_⟩
    · rw [← e3, ← e2]
      exact h1
    · rw [← e2, ← e1]
      exact lyD_congr l _ (fun u hu => h u (List.mem_cons_of_mem _ hu)) h2
theorem lyD_uniq : ∀ (l : List Int) (v : Int), (∀ t ∈ l, S t = S' t ∧ P t = P' t) → lyD S P D l v → lyD S' P' D' l v → ∀ t ∈ l, D t = D' t
  | [], _, _, _, _ => fun t ht => absurd ht List.not_mem_nil
  | u :: l, v, h, ⟨h1, h2⟩, ⟨g1, g2⟩ => by
    obtain ⟨e1, e2⟩ := h u List.mem_cons_self
    intro t ht
    rcases List.mem_cons.mp ht with q | q
    · rw [q, h1, g1, e2]
    · rw [← e1, ← e2] at g2
      exact lyD_uniq l _ (fun u hu => h u (List.mem_cons_of_mem _ hu)) h2 g2 t q
theorem lyE_le : ∀ (l : List Int) (v : Int), 0 ≤ v → (∀ t ∈ l, 1 ≤ P t ∧ 0 ≤ S t) → v ≤ lyE S P l v ∧ lyE S P l v ≤ v + smL (fun t => S t + P t) l
  | [], v, _, _ => by
    simp only [lyE, smL]
    omega
  | t :: l, v, h0, h => by
    have h1 := h t List.mem_cons_self
    have hr := rupM_bd (v := v) (s := P t) h0 h1.1
    have := lyE_le l (rupM v (P t) + S t) (by omega) (fun u hu => h u (List.mem_cons_of_mem _ hu))
    simp only [lyE, smL]
    omega
theorem lyD_le : ∀ (l : List Int) (v : Int), 0 ≤ v → (∀ t ∈ l, 1 ≤ P t ∧ 0 ≤ S t) → lyD S P D l v → ∀ t ∈ l, v ≤ D t ∧ D t + S t ≤ lyE S P l v
  | [], _, _, _, _ => fun t ht => absurd ht List.not_mem_nil
  | u :: l, v, h0, h, ⟨h1, h2⟩ => by
    have hu := h u List.mem_cons_self
    have hr := rupM_bd (v := v) (s := P u) h0 hu.1
    have hl := lyE_le (S := S) (P := P) l (rupM v (P u) + S u) (by omega) (fun u hu => h u (List.mem_cons_of_mem _ hu))
    intro t ht
    simp only [lyE]
    rcases List.mem_cons.mp ht with q | q
    · rw [q, h1]
      omega
    · have := lyD_le l (rupM v (P u) + S u) (by omega) (fun u hu => h u (List.mem_cons_of_mem _ hu)) h2 t q
      omega
theorem lyD_apart : ∀ (l : List Int) (v : Int), 0 ≤ v → (∀ t ∈ l, 1 ≤ P t ∧ 0 ≤ S t) → lyD S P D l v → List.Pairwise (fun x y => D x + S x ≤ D y) l
  | [], _, _, _, _ => List.Pairwise.nil
  | u :: l, v, h0, h, ⟨h1, h2⟩ => by
    have hu := h u List.mem_cons_self
    have hr := rupM_bd (v := v) (s := P u) h0 hu.1
    refine List.pairwise_cons.mpr ⟨fun t ht => ?_, lyD_apart l _ (by omega) (fun u hu => h u (List.mem_cons_of_mem _ hu)) h2⟩
    have := lyD_le l (rupM v (P u) + S u) (by omega) (fun u hu => h u (List.mem_cons_of_mem _ hu)) h2 t ht
    omega
theorem lyG_ge : ∀ (l : List Int), (∀ t ∈ l, P t ≤ lyG P l) ∧ 0 ≤ lyG P l ∧ ∀ m : Int, 0 ≤ m → (∀ t ∈ l, P t ≤ m) → lyG P l ≤ m
  | [] => ⟨fun t ht => absurd ht List.not_mem_nil, Int.le_refl _, fun m hm _ => hm⟩
  | u :: l => by
    obtain ⟨h1, h2, h3⟩ := lyG_ge l
    simp only [lyG]
    refine ⟨fun t ht => ?_, by omega, fun m hm h => ?_⟩
    · rcases List.mem_cons.mp ht with q | q
      · rw [q]
        omega
      · have := h1 t q
        omega
    · have := h3 m hm (fun t ht => h t (List.mem_cons_of_mem _ ht))
      have := h u List.mem_cons_self
      omega
/-- the order in which a bus's things are laid: one number -/
def kyN (A S P : Int → Int) (t : Int) : Int := -(P t * 1073741824) - S t * 64 + raM A t
/-- what lies on a bus -/
def itP (A : Int → Int) (on : Int → Bool) (S : Int → Int) (k a t : Int) : Prop := 0 ≤ t ∧ t < 80 ∧ on (deM t) = true ∧ A (23 * deM t + 2) = a ∧ (if t < 60 then t % 3 < A (23 * deM t + 5) ∧ A (23 * deM t + (6 + t % 3)) = k else A (23 * deM t + 1) = 1 ∧ S t ≠ 0)
def BusL (A : Int → Int) (on : Int → Bool) (k : Int) (S P : Int → Int) (a : Int) (l : List Int) : Prop := List.Pairwise (fun x y => kyN A S P x < kyN A S P y) l ∧ ∀ t, t ∈ l ↔ itP A on S k a t
/-- one bus laid -/
def BuSp (A : Int → Int) (on : Int → Bool) (k : Int) (S P D : Int → Int) (a nn gg : Int) : Prop := ∃ l, BusL A on k S P a l ∧ lyD S P D l 0 ∧ nn = lyE S P l 0 ∧ gg = lyG P l
/-- sizes of the apertures -/
def ApSp (A : Int → Int) (on : Int → Bool) (k : Int) (S P : Int → Int) (a : Int) : Prop := ∀ t, itP A on S k a t → t < 60 → S t = szT A t ∧ P t = szT A t
/-- a bridge measured -/
def BrSp (A : Int → Int) (on : Int → Bool) (k : Int) (S P D N G : Int → Int) (e : Int) : Prop := ApSp A on k S P e ∧ BuSp A on k S P D e (N e) (G e) ∧ S (60 + e) = rupM (N e + A (23 * e + 16)) 16 ∧ P (60 + e) = max 16 (G e)
/-- all measured -/
def NdS (A : Int → Int) (on : Int → Bool) (k : Int) (S P D N G : Int → Int) : Prop := (∀ e, on e = true → A (23 * e + 1) = 1 → BrSp A on k S P D N G e) ∧ ApSp A on k S P (-1) ∧ BuSp A on k S P D (-1) (N (-1)) (G (-1))
theorem itP_iff (h : ∀ t, itP A on S k a t ∨ itP A on S' k a t → S t = S' t) : itP A on S k a t ↔ itP A on S' k a t := by
  constructor
  · intro q
    have := h t (Or.inl q)
    obtain ⟨q1, q2, q3, q4, q5⟩ := q
    refine ⟨q1, q2, q3, q4, ?_⟩
    split
    · rename_i r
      rw [if_pos r] at q5
      exact q5
    · rename_i r
      rw [if_neg r] at q5
      rw [← this]
      exact q5
  · intro q
    have := h t (Or.inr q)
    obtain ⟨q1, q2, q3, q4, q5⟩ := q
    refine ⟨q1, q2, q3, q4, ?_⟩
    split
    · rename_i r
      rw [if_pos r] at q5
      exact q5
    · rename_i r
      rw [if_neg r] at q5
      rw [this]
      exact q5
theorem BusL_uniq (h : BusL A on k S P a l) (h' : BusL A on k S' P' a l') (hag : ∀ t, itP A on S k a t ∨ itP A on S' k a t → S t = S' t ∧ P t = P' t) : l = l' := by
  have hi : ∀ t, itP A on S k a t ↔ itP A on S' k a t := fun t => itP_iff (fun t ht => (hag t ht).1)
  refine pw_uniq (k := kyN A S P) _ _ h.1 ?_ (fun t => by rw [h.2, h'.2, hi])
  refine List.Pairwise.imp_of_mem ?_ h'.1
  intro x y hx hy hxy
  have ex := hag x (Or.inr ((h'.2 x).mp hx))
  have ey := hag y (Or.inr ((h'.2 y).mp hy))
  unfold kyN at hxy ⊢
  rw [ex.1, ex.2, ey.1, ey.2]
  exact hxy
theorem BuSp_uniq {nn gg nn' gg' : Int} (h : BuSp A on k S P D a nn gg) (h' : BuSp A on k S' P' D' a nn' gg') (hag : ∀ t, itP A on S k a t ∨ itP A on S' k a t → S t = S' t ∧ P t = P' t) : nn = nn' ∧ gg = gg' ∧ ∀ t, itP A on S k a t → D t = D' t := by
  obtain ⟨l, h1, h2, h3, h4⟩ := h
  obtain ⟨l', g1, g2, g3, g4⟩ := h'
  have e := BusL_uniq h1 g1 hag
  subst e
  have hm : ∀ t ∈ l, S t = S' t ∧ P t = P' t := fun t ht => hag t (Or.inl ((h1.2 t).mp ht))
  refine ⟨?_, ?_, fun t ht => lyD_uniq l 0 hm h2 g2 t ((h1.2 t).mpr ht)⟩
  · rw [h3, g3]
    exact lyE_congr l 0 hm
  · rw [h4, g4]
    exact lyG_congr l (fun t ht => (hm t ht).2)
/-- the things of a bus are one level deeper -/
theorem it_lev (hs : gS A) (hon : ∀ e, on e = true → thM A e) (ht : itP A on S k a t) (ha : 0 ≤ a) : leM A (deM t) = leM A a + 1 := by
  obtain ⟨t0, t1, t2, t3, -⟩ := ht
  rcases le_rec hs (hon _ t2) with ⟨q1, q2⟩ | ⟨q1, q2⟩
  · omega
  · rw [t3] at q2
    exact q2
theorem it_br (ht : itP A on S k a t) (h6 : ¬ t < 60) : t = 60 + deM t ∧ A (23 * deM t + 1) = 1 := by
  obtain ⟨t0, t1, t2, t3, t5⟩ := ht
  rw [if_neg h6] at t5
  have hd : deM t = t - 60 := if_neg h6
  exact ⟨by omega, t5.1⟩
theorem NdS_uniq (hs : gS A) (hon : ∀ e, on e = true → thM A e) (h : NdS A on k S P D N G) (h' : NdS A on k S' P' D' N' G') : (∀ e, on e = true → A (23 * e + 1) = 1 → S (60 + e) = S' (60 + e) ∧ P (60 + e) = P' (60 + e) ∧ N e = N' e ∧ G e = G' e ∧ ∀ t, itP A on S k e t → D t = D' t) ∧ N (-1) = N' (-1) ∧ G (-1) = G' (-1) ∧ ∀ t, itP A on S k (-1) t → D t = D' t := by
  have step : ∀ a, (ApSp A on k S P a) → ApSp A on k S' P' a → (∀ x, on x = true → A (23 * x + 2) = a → A (23 * x + 1) = 1 → S (60 + x) = S' (60 + x) ∧ P (60 + x) = P' (60 + x)) → ∀ t, itP A on S k a t ∨ itP A on S' k a t → S t = S' t ∧ P t = P' t := fun a h1 h2 hx t ht => by
    by_cases q : t < 60
    · have i1 : itP A on S k a t := by
        rcases ht with r | r
        · exact r
        · obtain ⟨q1, q2, q3, q4, q5⟩ := r
          refine ⟨q1, q2, q3, q4, ?_⟩
          rw [if_pos q] at q5 ⊢
          exact q5
      have i2 : itP A on S' k a t := by
        obtain ⟨q1, q2, q3, q4, q5⟩ := i1
        refine ⟨q1, q2, q3, q4, ?_⟩
        rw [if_pos q] at q5 ⊢
        exact q5
      rw [(h1 t i1 q).1, (h1 t i1 q).2, (h2 t i2 q).1, (h2 t i2 q).2]
      exact ⟨rfl, rfl⟩
    · rcases ht with r | r
      · obtain ⟨e1, e2⟩ := it_br r q
        rw [e1]
        exact hx _ r.2.2.1 r.2.2.2.1 e2
      · obtain ⟨e1, e2⟩ := it_br r q
        rw [e1]
        exact hx _ r.2.2.1 r.2.2.2.1 e2
  have key : ∀ (n : Nat) (e : Int), on e = true → A (23 * e + 1) = 1 → 5 ≤ leM A e + n → S (60 + e) = S' (60 + e) ∧ P (60 + e) = P' (60 + e) ∧ N e = N' e ∧ G e = G' e ∧ ∀ t, itP A on S k e t → D t = D' t := by
    intro n
    induction n with
    | zero =>
      intro e he hb hl
      have := leM_bd (A := A) (e := e)
      omega
    | succ n ih =>
      intro e he hb hl
      obtain ⟨a1, a2, a3, a4⟩ := h.1 e he hb
      obtain ⟨b1, b2, b3, b4⟩ := h'.1 e he hb
      have e0 := (hon e he).1
      have hag := step e a1 b1 (fun x hx hp hbx => by
        have hl2 : leM A x = leM A e + 1 := by
          rcases le_rec hs (hon x hx) with ⟨q1, q2⟩ | ⟨q1, q2⟩
          · omega
          · rw [hp] at q2
            exact q2
        have := ih x hx hbx (by omega)
        exact ⟨this.1, this.2.1⟩)
      obtain ⟨u1, u2, u3⟩ := BuSp_uniq a2 b2 hag
      rw [a3, a4, b3, b4, u1, u2]
      exact ⟨rfl, rfl, rfl, rfl, u3⟩
  have hall : ∀ e, on e = true → A (23 * e + 1) = 1 → S (60 + e) = S' (60 + e) ∧ P (60 + e) = P' (60 + e) ∧ N e = N' e ∧ G e = G' e ∧ ∀ t, itP A on S k e t → D t = D' t := fun e he hb => key 5 e he hb (by
    have := leM_bd (A := A) (e := e)
    omega)
  have hag := step (-1) h.2.1 h'.2.1 (fun x hx _ hbx => ⟨(hall x hx hbx).1, (hall x hx hbx).2.1⟩)
  exact ⟨hall, BuSp_uniq h.2.2 h'.2.2 hag⟩
/-- how much a bridge of a level may need -/
def bdS : Nat → Int
  | 0 => 143
  | n + 1 => 8 * (1536 + bdS n) + 143
theorem smL_le {α : Type} {h : α → Int} {m : Int} : ∀ l : List α, (∀ x ∈ l, h x ≤ m) → smL h l ≤ l.length * m
  | [], _ => by simp [smL]
  | x :: l, hh => by
    have h1 := hh x List.mem_cons_self
    have h2 := smL_le l (fun y hy => hh y (List.mem_cons_of_mem _ hy))
    simp only [smL, List.length_cons]
    have e : ((l.length + 1 : Nat) : Int) * m = (l.length : Int) * m + m := by
      rw [Int.natCast_add, Int.add_mul]
      simp
    omega
theorem flat_sum {g : Int → List Int} {h : Int → Int} {m : Int} : ∀ (l : List Int), (∀ x ∈ l, smL h (g x) ≤ m) → smL h (l.flatMap g) ≤ (l.filter (fun x => !(g x).isEmpty)).length * m
  | [], _ => by simp [smL]
  | x :: l, hh => by
    have h1 := hh x List.mem_cons_self
    have h2 := flat_sum l (fun y hy => hh y (List.mem_cons_of_mem _ hy))
    rw [List.flatMap_cons, smL_app, List.filter_cons]
    cases hg : g x with
    | nil =>
      have : smL h ([] : List Int) = 0 := rfl
      simp only [List.isEmpty_nil, Bool.not_true, Bool.false_eq_true, if_false]
      omega
    | cons y t =>
      rw [hg] at h1
      simp only [List.isEmpty_cons, Bool.not_false, if_true, List.length_cons]
      have e : (((l.filter (fun x => !(g x).isEmpty)).length + 1 : Nat) : Int) * m = ((l.filter (fun x => !(g x).isEmpty)).length : Int) * m + m := by
        rw [Int.natCast_add, Int.add_mul]
        simp
      omega
/-- a bus's things by the walk -/
def cnL (A : Int → Int) (on : Int → Bool) (S : Int → Int) (k a e : Int) : List Int := if on e = true ∧ A (23 * e + 2) = a then (if A (23 * e + 1) = 1 then (if S (60 + e) ≠ 0 then [60 + e] else []) else apsR A e k) else []
theorem mem_cnL (g : gT A) (hon : ∀ e, on e = true → thM A e) (he : 0 ≤ e ∧ e < 20) : t ∈ cnL A on S k a e ↔ itP A on S k a t ∧ deM t = e := by
  unfold cnL
  by_cases q : on e = true ∧ A (23 * e + 2) = a
  · rw [if_pos q]
    have hth := hon e q.1
    have h5 := MG_many g.1 he
    by_cases r : A (23 * e + 1) = 1
    · rw [if_pos r]
      have h50 := g.2.2.2.2.2.2.1 e ⟨hth, r⟩
      obtain ⟨d1, d2, d3⟩ := de_br he.1
      by_cases u : S (60 + e) ≠ 0
      · rw [if_pos u, List.mem_singleton]
        constructor
        · intro h
          rw [h]
          refine ⟨⟨by omega, by omega, by rw [d1]; exact q.1, by rw [d1]; exact q.2, ?_⟩, d1⟩
          rw [if_neg d3, d1]
          exact ⟨r, u⟩
        · rintro ⟨⟨t0, t1, t2, t3, t4⟩, t5⟩
          by_cases t6 : t < 60
          · rw [if_pos t6, t5] at t4
            omega
          · have hd : deM t = t - 60 := if_neg t6
            omega
      · rw [if_neg u]
        constructor
        · intro h
          exact absurd h List.not_mem_nil
        · rintro ⟨⟨t0, t1, t2, t3, t4⟩, t5⟩
          exfalso
          by_cases t6 : t < 60
          · rw [if_pos t6, t5] at t4
            omega
          · have hd : deM t = t - 60 := if_neg t6
            rw [if_neg t6] at t4
            rw [show (60 + e) = t by omega] at u
            exact u t4.2
    · rw [if_neg r, mem_apsR g.1 he]
      constructor
      · rintro ⟨b, b0, b1, b2, rfl⟩
        obtain ⟨d1, d2, d3, d4⟩ := de_ap he.1 he.2 b0 (show b < 3 by omega)
        refine ⟨⟨by omega, by omega, by rw [d1]; exact q.1, by rw [d1]; exact q.2, ?_⟩, d1⟩
        rw [if_pos d4, d1, d3]
        exact ⟨b1, b2⟩
      · rintro ⟨⟨t0, t1, t2, t3, t4⟩, t5⟩
        by_cases t6 : t < 60
        · have hd : deM t = t / 3 := if_pos t6
          rw [if_pos t6, t5] at t4
          exact ⟨t % 3, by omega, t4.1, t4.2, by omega⟩
        · rw [if_neg t6, t5] at t4
          exact absurd t4.1 r
  · rw [if_neg q]
    constructor
    · intro h
      exact absurd h List.not_mem_nil
    · rintro ⟨⟨t0, t1, t2, t3, t4⟩, t5⟩
      rw [t5] at t2 t3
      exact absurd ⟨t2, t3⟩ q
theorem aps_len3 (g : gT A) (he : 0 ≤ e ∧ e < 20) : (apsR A e k).length ≤ 3 := by
  have hnd := nodup_apsR (k := k) g.1 he
  have h5 := MG_many g.1 he
  have : ((apsR A e k).length : Int) ≤ 3 := by
    have h6 := smL_uniq (g := fun _ => (1 : Int)) _ ((rgL 0 3).filter (fun b => decide (3 * e + b ∈ apsR A e k)) |>.map (fun b => 3 * e + b)) hnd (by
      refine List.pairwise_map.mpr (List.Pairwise.imp ?_ (List.Pairwise.filter _ (pw_rgL 3 0)))
      intro x y hxy q
      omega) (fun t => by
      rw [List.mem_map]
      constructor
      · intro ht
        obtain ⟨b, b0, b1, b2, rfl⟩ := (mem_apsR g.1 he).mp ht
        exact ⟨b, List.mem_filter.mpr ⟨(mem_rgL _ _ _).mpr ⟨b0, by omega⟩, decide_eq_true ht⟩, rfl⟩
      · rintro ⟨b, hb, rfl⟩
        exact of_decide_eq_true (List.mem_filter.mp hb).2)
    have hcount : ∀ l : List Int, smL (fun _ => (1 : Int)) l = l.length := fun l => by
      induction l with
      | nil => rfl
      | cons x l ih =>
        simp only [smL, List.length_cons, ih]
        omega
    rw [hcount, hcount, List.length_map] at h6
    have h7 := List.length_filter_le (fun b => decide (3 * e + b ∈ apsR A e k)) (rgL 0 3)
    rw [rgL_len] at h7
    omega
  omega
/-- the sum over a bus -/
theorem bus_sumM (g : gT A) (hon : ∀ e, on e = true → thM A e) (hl : l.Nodup) (hm : ∀ t, t ∈ l ↔ itP A on S k a t) {h : Int → Int} {m : Int} (hm0 : 0 ≤ m) (hin : ∀ e, thM A e → smL h (cnL A on S k a e) ≤ m) : smL h l ≤ 8 * m := by
  have hs := gT_S g
  have hF := wk_F hs
  have hmem : ∀ e ∈ lsO (wkA A).1 (wkA A).2, thM A e := fun e he => by
    obtain ⟨i, i0, i1, i2⟩ := mem_lsO.mp he
    exact (hF.2.2 e).mp ⟨i, i0, i1, i2⟩
  have e1 : smL h l = smL h ((lsO (wkA A).1 (wkA A).2).flatMap (cnL A on S k a)) := by
    refine smL_uniq _ _ hl ?_ (fun t => ?_)
    · refine pw_flat _ (fun e he => ?_) ?_
      · have her := th_rg (hmem e he)
        unfold cnL
        split
        · split
          · split
            · exact List.pairwise_singleton ..
            · exact List.Pairwise.nil
          · exact nodup_apsR g.1 her
        · exact List.Pairwise.nil
      · refine List.Pairwise.imp_of_mem ?_ (pw_lsO hF.2.1)
        intro e f he hf hk u hu v hv huv
        have d1 := ((mem_cnL g hon (th_rg (hmem e he))).mp hu).2
        have d2 := ((mem_cnL g hon (th_rg (hmem f hf))).mp hv).2
        rw [huv, d2] at d1
        rw [d1] at hk
        omega
    · rw [hm, List.mem_flatMap]
      constructor
      · intro ht
        have hth := hon _ ht.2.2.1
        obtain ⟨i, i0, i1, i2⟩ := (hF.2.2 (deM t)).mpr hth
        exact ⟨deM t, mem_lsO.mpr ⟨i, i0, i1, i2⟩, (mem_cnL g hon (th_rg hth)).mpr ⟨ht, rfl⟩⟩
      · rintro ⟨e, he, ht⟩
        exact ((mem_cnL g hon (th_rg (hmem e he))).mp ht).1
  have h3 := flat_sum (g := cnL A on S k a) (h := h) (m := m) (lsO (wkA A).1 (wkA A).2) (fun e he => hin e (hmem e he))
  have h4 : (((lsO (wkA A).1 (wkA A).2).filter (fun x => !(cnL A on S k a x).isEmpty)).length : Int) ≤ 8 - 0 := by
    have hat : ∀ e ∈ (lsO (wkA A).1 (wkA A).2).filter (fun x => !(cnL A on S k a x).isEmpty), thM A e ∧ A (23 * e + 2) = a := fun e he => by
      obtain ⟨q1, q2⟩ := List.mem_filter.mp he
      refine ⟨hmem e q1, ?_⟩
      by_cases r : A (23 * e + 2) = a
      · exact r
      · exfalso
        unfold cnL at q2
        rw [if_neg (fun s => r s.2)] at q2
        exact absurd q2 (by decide)
    refine pw_len (g := fun e => A (23 * e + 3)) _ 0 8 ?_ (fun e he => ?_) (by omega)
    · refine List.Pairwise.imp_of_mem ?_ (List.Pairwise.filter _ (pw_lsO hF.2.1))
      intro e f he hf hk
      obtain ⟨te, e2⟩ := hat e he
      obtain ⟨tf, f2⟩ := hat f hf
      exact (ke_slot hs te tf (by rw [e2, f2])).mp hk
    · have := sl_rg hs (hat e he).1
      omega
  rw [e1]
  refine Int.le_trans h3 ?_
  exact Int.mul_le_mul_of_nonneg_right (by omega) (by omega)
theorem bus_sum (g : gT A) (hon : ∀ e, on e = true → thM A e) (hl : l.Nodup) (hm : ∀ t, t ∈ l ↔ itP A on S k a t) {h : Int → Int} {m : Int} (hm0 : 0 ≤ m) (h1 : ∀ t, itP A on S k a t → t < 60 → h t ≤ 512) (h2 : ∀ t, itP A on S k a t → ¬ t < 60 → h t ≤ 256 + m) : smL h l ≤ 8 * (1536 + m) := by
  have hs := gT_S g
  refine bus_sumM g hon hl hm (by omega) (fun e he => ?_)
  have her := th_rg he
  have hin : ∀ t ∈ cnL A on S k a e, itP A on S k a t := fun t ht => ((mem_cnL g hon her).mp ht).1
  unfold cnL at hin ⊢
  split
  · rename_i q
    rw [if_pos q] at hin
    split
    · rename_i r
      rw [if_pos r] at hin
      split
      · rename_i u
        rw [if_pos u] at hin
        have := h2 _ (hin _ (List.mem_singleton.mpr rfl)) (by have := her.1; omega)
        simp only [smL]
        omega
      · simp only [smL]
        omega
    · rename_i r
      rw [if_neg r] at hin
      have hle := smL_le (h := h) (m := 512) (apsR A e k) (fun t ht => h1 t (hin t ht) (by
        obtain ⟨b, b0, b1, b2, rfl⟩ := (mem_apsR g.1 her).mp ht
        have h5 := MG_many g.1 her
        omega))
      have hlen := aps_len3 (k := k) g her
      have : ((apsR A e k).length : Int) * 512 ≤ 1536 := by omega
      omega
  · simp only [smL]
    omega
end DG
