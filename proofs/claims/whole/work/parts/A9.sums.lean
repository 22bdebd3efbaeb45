/-! SUMS over things; what the reference marks -/
section BJ
variable {im X Y : zM} {c c' s A B w w' T : Int → Int} {e f a b x y d k m n u bu : Int} {z : zSS} {p q r : Int → Bool}
def smL {α : Type} (g : α → Int) : List α → Int
  | [] => 0
  | x :: l => g x + smL g l
theorem smL_app {α : Type} (g : α → Int) : ∀ l m : List α, smL g (l ++ m) = smL g l + smL g m
  | [], m => by simp only [List.nil_append, smL]; omega
  | x :: l, m => by simp only [List.cons_append, smL, smL_app g l m]; omega
theorem smL_map {α β : Type} (g : β → Int) (h : α → β) : ∀ l : List α, smL g (l.map h) = smL (fun x => g (h x)) l
  | [] => rfl
  | x :: l => by simp only [List.map_cons, smL, smL_map g h l]
theorem smL_flat {α β : Type} (g : β → Int) (h : α → List β) : ∀ l : List α, smL g (l.flatMap h) = smL (fun x => smL g (h x)) l
  | [] => rfl
  | x :: l => by simp only [List.flatMap_cons, smL_app, smL, smL_flat g h l]
theorem smL_congr {α : Type} {g h : α → Int} : ∀ l : List α, (∀ x ∈ l, g x = h x) → smL g l = smL h l
  | [], _ => rfl
  | x :: l, q => by
    simp only [smL]
    rw [q x List.mem_cons_self, smL_congr l (fun y hy => q y (List.mem_cons_of_mem _ hy))]
theorem smL_nn {α : Type} {g : α → Int} : ∀ l : List α, (∀ x ∈ l, 0 ≤ g x) → 0 ≤ smL g l
  | [], _ => Int.le_refl _
  | x :: l, q => by
    simp only [smL]
    have := q x List.mem_cons_self
    have := smL_nn l (fun y hy => q y (List.mem_cons_of_mem _ hy))
    omega
theorem smL_0 {α : Type} {g : α → Int} : ∀ l : List α, (∀ x ∈ l, g x = 0) → smL g l = 0
  | [], _ => rfl
  | x :: l, q => by
    simp only [smL]
    rw [q x List.mem_cons_self, smL_0 l (fun y hy => q y (List.mem_cons_of_mem _ hy))]
    rfl
/-- the same members once each: the same sum -/
theorem smL_uniq {g : Int → Int} : ∀ l m : List Int, l.Nodup → m.Nodup → (∀ x, x ∈ l ↔ x ∈ m) → smL g l = smL g m
  | [], [], _, _, _ => rfl
  | [], y :: m, _, _, h => absurd ((h y).mpr List.mem_cons_self) List.not_mem_nil
  | x :: l, m, h1, h2, h => by
    obtain ⟨m1, m2, rfl⟩ := List.append_of_mem ((h x).mp List.mem_cons_self)
    obtain ⟨a1, a2⟩ := List.nodup_cons.mp h1
    have h2' : (x :: (m1 ++ m2)).Nodup := by
      rw [List.nodup_append] at h2
      obtain ⟨b1, b2, b3⟩ := h2
      obtain ⟨c1, c2⟩ := List.nodup_cons.mp b2
      refine List.nodup_cons.mpr ⟨fun hx => ?_, List.nodup_append.mpr ⟨b1, c2, fun u hu v hv => b3 u hu v (List.mem_cons_of_mem _ hv)⟩⟩
      rcases List.mem_append.mp hx with hx | hx
      · exact b3 x hx x List.mem_cons_self rfl
      · exact c1 hx
    obtain ⟨b1, b2⟩ := List.nodup_cons.mp h2'
    have ih := smL_uniq (g := g) l (m1 ++ m2) a2 b2 (fun y => by
      have hy := h y
      simp only [List.mem_cons, List.mem_append] at hy ⊢
      constructor
      · intro q
        rcases hy.mp (Or.inr q) with r | r | r
        · exact Or.inl r
        · exact absurd (r ▸ q) a1
        · exact Or.inr r
      · intro q
        have hne : y ≠ x := fun s => b1 (by rw [← s]; exact List.mem_append.mpr q)
        exact (hy.mpr (q.imp id Or.inr)).resolve_left hne)
    simp only [smL, smL_app] at ih ⊢
    omega
theorem pw_nodup {g : Int → Int} {l : List Int} (h : List.Pairwise (fun x y => g x < g y) l) : l.Nodup := List.Pairwise.imp (fun hxy q => by rw [q] at hxy; omega) h
theorem lp_sm {g : Int → Int} {F : Int → Int → Int} (hF : ∀ i s, F i s = s + g i) : ∀ (m : Nat) (i s : Int), lp F m i s = s + smL g (rgL i m)
  | 0, i, s => by simp only [lp, rgL, smL]; omega
  | m + 1, i, s => by
    simp only [lp, rgL, smL, lp_sm hF m (i + 1), hF]
    omega
/-- the class's total -/
theorem tot_sm (h0 : 0 ≤ z.2.2.2.2.2) (h1 : z.2.2.2.2.2 ≤ 27) : totS z = smL (fun p : zTh => p.2.2.2.1) (shL z) := by
  unfold totS shL
  rw [lp_sm (g := z.2.2.2.1) (F := totf z.2.2.2.1) (fun i s => rfl), smL_map, show min z.2.2.2.2.2 27 = z.2.2.2.2.2 by omega]
  exact Int.zero_add _
/-- one unit of a stretch -/
def cvP (u : Int) (p : Int × Int) : Int := if p.1 ≤ u ∧ u < p.1 + p.2 then 1 else 0
def prT (A : Int → Int) (k t : Int) : Int × Int := (bgT A t k, wdT A t k)
theorem mk_cv {v s : Int} : mkT T v s 1 u = T u + cvP u (v, s) := by
  unfold mkT cvP
  dsimp only
  split <;> omega
/-- the reference's things of a bus, device by device -/
def apsR (A : Int → Int) (e k : Int) : List Int := (rgL 0 (A (23 * e + 5)).toNat).flatMap (fun x => if A (23 * e + (6 + x)) = k then [3 * e + x] else [])
def thR (A : Int → Int) (bu k e : Int) : List Int := if onM A e ∧ buM A e = bu then apsR A e k ++ (if 0 < A (23 * e + (21 + k)) then [60 + e] else []) else []
def reT (A : Int → Int) (bu k : Int) : List Int := (rgL 0 20).flatMap (thR A bu k)
theorem prT_ap (h0 : 0 ≤ e) (h1 : e < 20) (x0 : 0 ≤ x) (x1 : x < 3) : prT A k (3 * e + x) = (A (23 * e + (12 + x)), A (23 * e + (9 + x))) := by
  unfold prT bgT wdT bsT szT
  rw [if_pos (by omega), if_pos (by omega), show (3 * e + x) / 3 = e by omega, show (3 * e + x) % 3 = x by omega]
theorem prT_br (h0 : 0 ≤ e) : prT A k (60 + e) = (A (23 * e + (19 + k)), A (23 * e + (21 + k))) := by
  unfold prT bgT wdT
  rw [if_neg (by omega), if_neg (by omega), show 60 + e - 60 = e by omega]
theorem ap_cv (h0 : 0 ≤ e) (h1 : e < 20) : ∀ (m : Nat) (i : Int) (T : Int → Int), 0 ≤ i → i + m ≤ 3 → lp (apT A e k) m i T u = T u + smL (fun t => cvP u (prT A k t)) ((rgL i m).flatMap (fun x => if A (23 * e + (6 + x)) = k then [3 * e + x] else []))
  | 0, i, T, _, _ => by simp only [lp, rgL, List.flatMap_nil, smL]; omega
  | m + 1, i, T, i0, i1 => by
    simp only [lp, rgL, List.flatMap_cons, smL_app]
    rw [ap_cv h0 h1 m (i + 1) _ (by omega) (by omega)]
    unfold apT
    by_cases q : A (23 * e + (6 + i)) = k
    · rw [if_pos q, if_pos q, mk_cv]
      simp only [smL]
      rw [prT_ap h0 h1 i0 (by omega)]
      omega
    · rw [if_neg q, if_neg q]
      simp only [smL]
      omega
theorem dv_cv (hM : MG A) : ∀ (m : Nat) (i : Int) (T : Int → Int), 0 ≤ i → i + m ≤ 20 → lp (dvT A bu k) m i T u = T u + smL (fun t => cvP u (prT A k t)) ((rgL i m).flatMap (thR A bu k))
  | 0, i, T, _, _ => by simp only [lp, rgL, List.flatMap_nil, smL]; omega
  | m + 1, i, T, i0, i1 => by
    simp only [lp, rgL, List.flatMap_cons, smL_app]
    rw [dv_cv hM m (i + 1) _ (by omega) (by omega)]
    have h5 := MG_many hM (dv := i) ⟨i0, by omega⟩
    have ha := ap_cv (A := A) (k := k) (u := u) i0 (show i < 20 by omega) (A (23 * i + 5)).toNat 0 T (by omega) (by omega)
    unfold dvT thR apsR
    by_cases q : onM A i ∧ buM A i = bu
    · rw [if_pos q, if_pos q, smL_app]
      by_cases q2 : 0 < A (23 * i + (21 + k))
      · rw [if_pos q2, if_pos q2, mk_cv, ha]
        simp only [smL]
        rw [prT_br i0]
        omega
      · rw [if_neg q2, if_neg q2, ha]
        simp only [smL]
        omega
    · rw [if_neg q, if_neg q]
      simp only [smL]
      omega
/-- a row of marks tells how many of a list of stretches cover each unit -/
def TR (T : Int → Int) (l : List (Int × Int)) : Prop := ∀ u : Int, 0 ≤ u → u < 1024 → T u = smL (cvP u) l
theorem TR_la (hM : MG A) : TR (laT A T bu k) ((reT A bu k).map (prT A k)) := by
  intro u u0 u1
  unfold laT reT
  rw [dv_cv hM 20 0 _ (by omega) (by omega), smL_map, if_pos ⟨u0, u1⟩]
  omega
theorem TR_mk {l : List (Int × Int)} {v s : Int} (h : TR T l) : TR (mkT T v s 1) ((v, s) :: l) := by
  intro u u0 u1
  rw [mk_cv, h u u0 u1]
  simp only [smL]
  omega
theorem mem_apsR (hM : MG A) (he : 0 ≤ e ∧ e < 20) : x ∈ apsR A e k ↔ ∃ b : Int, 0 ≤ b ∧ b < A (23 * e + 5) ∧ A (23 * e + (6 + b)) = k ∧ x = 3 * e + b := by
  have h5 := MG_many hM he
  unfold apsR
  rw [List.mem_flatMap]
  constructor
  · rintro ⟨b, hb, hx⟩
    have := (mem_rgL _ _ _).mp hb
    by_cases q : A (23 * e + (6 + b)) = k
    · rw [if_pos q, List.mem_singleton] at hx
      exact ⟨b, this.1, by omega, q, hx⟩
    · rw [if_neg q] at hx
      exact absurd hx List.not_mem_nil
  · rintro ⟨b, b0, b1, b2, b3⟩
    refine ⟨b, (mem_rgL _ _ _).mpr ⟨b0, by omega⟩, ?_⟩
    rw [if_pos b2, List.mem_singleton]
    exact b3
theorem mem_thR (hM : MG A) (he : 0 ≤ e ∧ e < 20) : x ∈ thR A bu k e ↔ 0 ≤ x ∧ x < 80 ∧ deM x = e ∧ itM A x k ∧ buM A (deM x) = bu := by
  have h5 := MG_many hM he
  unfold thR
  by_cases q : onM A e ∧ buM A e = bu
  · rw [if_pos q, List.mem_append, mem_apsR hM he]
    constructor
    · rintro (⟨b, b0, b1, b2, rfl⟩ | hx)
      · obtain ⟨d1, d2, d3, d4⟩ := de_ap he.1 he.2 b0 (show b < 3 by omega)
        refine ⟨by omega, by omega, d1, ⟨by rw [d1]; exact q.1, ?_⟩, by rw [d1]; exact q.2⟩
        rw [if_pos d4, d1, d3]
        exact ⟨b1, b2⟩
      · by_cases q2 : 0 < A (23 * e + (21 + k))
        · rw [if_pos q2, List.mem_singleton] at hx
          rw [hx]
          obtain ⟨d1, d2, d3⟩ := de_br he.1
          refine ⟨by omega, by omega, d1, ⟨by rw [d1]; exact q.1, ?_⟩, by rw [d1]; exact q.2⟩
          rw [if_neg d3, d1]
          exact q2
        · rw [if_neg q2] at hx
          exact absurd hx List.not_mem_nil
    · rintro ⟨x0, x1, hd, ⟨ho, hi⟩, hb⟩
      by_cases c : x < 60
      · left
        rw [if_pos c, hd] at hi
        have : deM x = x / 3 := if_pos c
        exact ⟨x % 3, by omega, hi.1, hi.2, by omega⟩
      · right
        rw [if_neg c, hd] at hi
        have : deM x = x - 60 := if_neg c
        rw [if_pos hi, List.mem_singleton]
        omega
  · rw [if_neg q]
    refine ⟨fun r => absurd r List.not_mem_nil, fun ⟨x0, x1, hd, hi, hb⟩ => absurd ⟨?_, ?_⟩ q⟩
    · rw [← hd]
      exact hi.1
    · rw [← hd]
      exact hb
theorem mem_reT (hM : MG A) : x ∈ reT A bu k ↔ 0 ≤ x ∧ x < 80 ∧ itM A x k ∧ buM A (deM x) = bu := by
  unfold reT
  rw [List.mem_flatMap]
  constructor
  · rintro ⟨e, he, hx⟩
    have he := (mem_rgL _ _ _).mp he
    have := (mem_thR hM ⟨he.1, by omega⟩).mp hx
    exact ⟨this.1, this.2.1, this.2.2.2⟩
  · rintro ⟨x0, x1, hi, hb⟩
    have hd := de_rg ⟨x0, x1⟩
    exact ⟨deM x, (mem_rgL _ _ _).mpr ⟨hd.1, by omega⟩, (mem_thR hM hd).mpr ⟨x0, x1, rfl, hi, hb⟩⟩
theorem nodup_reT (hM : MG A) : (reT A bu k).Nodup := by
  refine pw_nodup (g := fun t => 4 * deM t + (if t < 60 then t % 3 else 3)) ?_
  unfold reT
  have hin : ∀ e : Int, 0 ≤ e → e < 20 → ∀ x ∈ thR A bu k e, deM x = e := fun e e0 e1 x hx => ((mem_thR hM ⟨e0, e1⟩).mp hx).2.2.1
  refine pw_flat _ (fun e he => ?_) ?_
  · have he := (mem_rgL _ _ _).mp he
    have h5 := MG_many hM (dv := e) ⟨he.1, by omega⟩
    unfold thR
    split
    · rw [List.pairwise_append]
      refine ⟨?_, ?_, ?_⟩
      · unfold apsR
        refine pw_flat _ (fun x _ => ?_) ?_
        · split
          · exact List.pairwise_singleton ..
          · exact List.Pairwise.nil
        · refine List.Pairwise.imp_of_mem ?_ (pw_rgL (A (23 * e + 5)).toNat 0)
          intro x y hx hy hxy u hu v hv
          have hx := (mem_rgL _ _ _).mp hx
          have hy := (mem_rgL _ _ _).mp hy
          have eu : u = 3 * e + x := by
            split at hu
            · exact List.mem_singleton.mp hu
            · exact absurd hu List.not_mem_nil
          have ev : v = 3 * e + y := by
            split at hv
            · exact List.mem_singleton.mp hv
            · exact absurd hv List.not_mem_nil
          obtain ⟨a1, a2, a3, a4⟩ := de_ap he.1 (show e < 20 by omega) hx.1 (show x < 3 by omega)
          obtain ⟨b1, b2, b3, b4⟩ := de_ap he.1 (show e < 20 by omega) hy.1 (show y < 3 by omega)
          rw [eu, ev]
          rw [a1, b1, a3, b3, if_pos a4, if_pos b4]
          omega
      · split
        · exact List.pairwise_singleton ..
        · exact List.Pairwise.nil
      · intro u hu v hv
        obtain ⟨b, b0, b1, b2, rfl⟩ := (mem_apsR hM ⟨he.1, by omega⟩).mp hu
        have ev : v = 60 + e := by
          split at hv
          · exact List.mem_singleton.mp hv
          · exact absurd hv List.not_mem_nil
        obtain ⟨a1, a2, a3, a4⟩ := de_ap he.1 (show e < 20 by omega) b0 (show b < 3 by omega)
        obtain ⟨d1, d2, d3⟩ := de_br he.1
        rw [ev]
        rw [a1, d1, a3, if_pos a4, if_neg d3]
        omega
    · exact List.Pairwise.nil
  · refine List.Pairwise.imp_of_mem ?_ (pw_rgL 20 0)
    intro e f he hf hef u hu v hv
    have he := (mem_rgL _ _ _).mp he
    have hf := (mem_rgL _ _ _).mp hf
    have d1 := hin e he.1 (by omega) u hu
    have d2 := hin f hf.1 (by omega) v hv
    rw [d1, d2]
    split <;> split <;> omega
/-- class and reference see the same things of a bus -/
theorem bu_iff (hM : MG A) (he : 0 ≤ e ∧ e < 20) (ha : a = -1 ∨ (0 ≤ a ∧ a < 20)) : buM A e = bfM a ↔ A (23 * e + 2) = a := by
  have h2 := MG_at hM he
  unfold buM bfM
  rcases ha with q | q
  · rw [if_pos q, q]
    split <;> omega
  · rw [if_neg (show ¬ a = -1 by omega)]
    split <;> omega
theorem mem_both (hc : SimC c A) (g : gGd A) (hF : WkF A w n) (h6 : HsB c) (hk : 0 ≤ k ∧ k < 2) (ha : a = -1 ∨ (0 ≤ a ∧ a < 20)) : x ∈ thL c w n a k ↔ x ∈ reT A (bfM a) k := by
  rw [thL_now hc g hF h6 hk, mem_reT g.1.1]
  constructor
  · rintro ⟨x0, x1, hi, hb⟩
    exact ⟨x0, x1, hi, (bu_iff g.1.1 (de_rg ⟨x0, x1⟩) ha).mpr hb⟩
  · rintro ⟨x0, x1, hi, hb⟩
    exact ⟨x0, x1, hi, (bu_iff g.1.1 (de_rg ⟨x0, x1⟩) ha).mp hb⟩
theorem sum_both (hc : SimC c A) (g : gGd A) (hF : WkF A w n) (h6 : HsB c) (hk : 0 ≤ k ∧ k < 2) (ha : a = -1 ∨ (0 ≤ a ∧ a < 20)) (f : Int → Int) : smL f (thL c w n a k) = smL f (reT A (bfM a) k) := smL_uniq _ _ (pw_nodup (pw_thL (SimW_of hc) (gT_S g.1) hF h6)) (nodup_reT g.1.1) (fun _ => mem_both hc g hF h6 hk ha)
/-- the class's total of a bus -/
theorem tot_now (hc : SimC c A) (g : gGd A) (hF : WkF A w n) (h6 : HsB c) (hk : 0 ≤ k ∧ k < 2) (ha : a = -1 ∨ (0 ≤ a ∧ a < 20)) : totS (gatS c w n a k z) = smL (fun t => wdT A t k) (reT A (bfM a) k) := by
  obtain ⟨h1, h2, h3⟩ := sh_gather (z := z) (a := a) (k := k) (SimW_of hc) (gT_S g.1) hF h6
  rw [tot_sm (by omega) (by omega), h1, smL_map, ← sum_both hc g hF h6 hk ha]
  refine smL_congr _ (fun x hx => ?_)
  obtain ⟨x0, x1, hi, -⟩ := (thL_now hc g hF h6 hk).mp hx
  exact (rec_now hc g hk x0 x1 hi).1
end BJ
