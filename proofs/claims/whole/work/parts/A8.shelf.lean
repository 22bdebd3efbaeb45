/-! SHELVES as lists of things -/
section BI
variable {im X Y T : zM} {c c' s A B w w' : Int → Int} {e f a b x y d k m n K : Int} {z : zSS} {p q r : Int → Bool}
abbrev zTh : Type := Int × Int × Int × Int × Int
/-- what stands on a shelf -/
def shL (z : zSS) : List zTh := (rgL 0 z.2.2.2.2.2.toNat).map (fun i => (z.1 i, z.2.1 i, z.2.2.1 i, z.2.2.2.1 i, z.2.2.2.2.1 i))
theorem shL_clr : shL (clrS z) = [] := rfl
theorem shL_add {e1 e2 e3 e4 e5 : Int} (h0 : 0 ≤ z.2.2.2.2.2) (h1 : z.2.2.2.2.2 < 27) : shL (addS z e1 e2 e3 e4 e5) = shL z ++ [(e1, e2, e3, e4, e5)] ∧ (addS z e1 e2 e3 e4 e5).2.2.2.2.2 = z.2.2.2.2.2 + 1 := by
  unfold addS
  rw [if_pos ⟨h0, h1⟩]
  refine ⟨?_, rfl⟩
  unfold shL
  dsimp only
  rw [show (z.2.2.2.2.2 + 1).toNat = z.2.2.2.2.2.toNat + 1 by omega, rgL_app, List.map_append]
  congr 1
  · refine List.map_congr_left (fun i hi => ?_)
    have := (mem_rgL _ _ _).mp hi
    rw [ups_ne _ _ (by omega), ups_ne _ _ (by omega), ups_ne _ _ (by omega), ups_ne _ _ (by omega), ups_ne _ _ (by omega)]
  · simp only [List.map_cons, List.map_nil]
    rw [show (0 : Int) + (z.2.2.2.2.2.toNat : Int) = z.2.2.2.2.2 by omega, ups_at, ups_at, ups_at, ups_at, ups_at]
theorem rgL_len : ∀ (m : Nat) (i : Int), (rgL i m).length = m
  | 0, _ => rfl
  | m + 1, i => by rw [rgL, List.length_cons, rgL_len m]
theorem shL_len (h : 0 ≤ z.2.2.2.2.2) : ((shL z).length : Int) = z.2.2.2.2.2 := by
  unfold shL
  rw [List.length_map, rgL_len]
  omega
theorem shL_lp {f : Int → zSS → zSS} {g : Int → List zTh} : ∀ (m : Nat) (i : Int) (z : zSS), (∀ j : Int, i ≤ j → j < i + m → ∀ z : zSS, 0 ≤ z.2.2.2.2.2 → z.2.2.2.2.2 + (g j).length ≤ 27 → shL (f j z) = shL z ++ g j ∧ (f j z).2.2.2.2.2 = z.2.2.2.2.2 + (g j).length) → 0 ≤ z.2.2.2.2.2 → z.2.2.2.2.2 + ((rgL i m).flatMap g).length ≤ 27 → shL (lp f m i z) = shL z ++ (rgL i m).flatMap g ∧ (lp f m i z).2.2.2.2.2 = z.2.2.2.2.2 + ((rgL i m).flatMap g).length
  | 0, i, z, _, _, _ => by
    simp only [lp, rgL, List.flatMap_nil, List.append_nil, List.length_nil]
    exact ⟨trivial, by omega⟩
  | m + 1, i, z, hf, h0, h1 => by
    simp only [rgL, List.flatMap_cons, List.length_append] at h1
    simp only [lp, rgL, List.flatMap_cons, List.length_append]
    obtain ⟨a1, a2⟩ := hf i (by omega) (by omega) z h0 (by omega)
    obtain ⟨b1, b2⟩ := shL_lp m (i + 1) (f i z) (fun j j0 j1 => hf j (by omega) (by omega)) (by omega) (by omega)
    exact ⟨by rw [b1, a1, List.append_assoc], by omega⟩
/-- a thing's aperture, size, align and base in the class's cells -/
def apV (t : Int) : Int := if t < 60 then t % 3 else -1
def szC (c : Int → Int) (k t : Int) : Int := if t < 60 then gt c (deM t) (12 + t % 3) else gt c (deM t) (20 + k)
def alC (c : Int → Int) (k t : Int) : Int := if t < 60 then gt c (deM t) (12 + t % 3) else gt c (deM t) (22 + k)
def bsC (c : Int → Int) (k t : Int) : Int := if t < 60 then gt c (deM t) (15 + t % 3) else gt c (deM t) (18 + k)
def recC (c : Int → Int) (k t : Int) : zTh := (deM t, apV t, alC c k t, szC c k t, bsC c k t)
/-- a device's apertures of a kind, as things -/
def apsL (c : Int → Int) (e k : Int) : List Int := (rgL 0 (gt c e 6).toNat).flatMap (fun x => if gt c e (9 + x) = k then [3 * e + x] else [])
/-- a device's things on a bus -/
def thC (c : Int → Int) (a k e : Int) : List Int := if gt c e 1 = a ∧ gt c e 3 = 1 then (if gt c e 0 = 1 then apsL c e k else if 0 < gt c e (20 + k) then [60 + e] else []) else []
/-- the things of a bus -/
def thL (c w : Int → Int) (n a k : Int) : List Int := (lsO w n).flatMap (thC c a k)
theorem de_ap (h0 : 0 ≤ e) (h1 : e < 20) (x0 : 0 ≤ x) (x1 : x < 3) : deM (3 * e + x) = e ∧ apV (3 * e + x) = x ∧ (3 * e + x) % 3 = x ∧ 3 * e + x < 60 := by
  unfold deM apV
  rw [if_pos (by omega), if_pos (by omega)]
  omega
theorem de_br (h0 : 0 ≤ e) : deM (60 + e) = e ∧ apV (60 + e) = -1 ∧ ¬ 60 + e < 60 := by
  unfold deM apV
  rw [if_neg (by omega), if_neg (by omega)]
  omega
theorem recC_ap (h0 : 0 ≤ e) (h1 : e < 20) (x0 : 0 ≤ x) (x1 : x < 3) : recC c k (3 * e + x) = (e, x, gt c e (12 + x), gt c e (12 + x), gt c e (15 + x)) := by
  obtain ⟨d1, d2, d3, d4⟩ := de_ap h0 h1 x0 x1
  unfold recC alC szC bsC
  rw [d1, d2, d3, if_pos d4, if_pos d4, if_pos d4]
theorem recC_br (h0 : 0 ≤ e) : recC c k (60 + e) = (e, -1, gt c e (22 + k), gt c e (20 + k), gt c e (18 + k)) := by
  obtain ⟨d1, d2, d3⟩ := de_br h0
  unfold recC alC szC bsC
  rw [d1, d2, if_neg d3, if_neg d3, if_neg d3]
theorem flatMap_map' {α β γ : Type} (g : β → γ) (f : α → List β) : ∀ l : List α, (l.flatMap f).map g = l.flatMap (fun x => (f x).map g)
  | [] => rfl
  | x :: l => by rw [List.flatMap_cons, List.map_append, List.flatMap_cons, flatMap_map' g f l]
theorem map_flatMap' {α β γ : Type} (f : α → β) (g : β → List γ) : ∀ l : List α, (l.map f).flatMap g = l.flatMap (fun x => g (f x))
  | [] => rfl
  | x :: l => by rw [List.map_cons, List.flatMap_cons, List.flatMap_cons, map_flatMap' f g l]
theorem flatMap_congr' {α β : Type} {f g : α → List β} : ∀ l : List α, (∀ x ∈ l, f x = g x) → l.flatMap f = l.flatMap g
  | [], _ => rfl
  | x :: l, h => by rw [List.flatMap_cons, List.flatMap_cons, h x List.mem_cons_self, flatMap_congr' l (fun y hy => h y (List.mem_cons_of_mem _ hy))]
theorem sh_aps (h0 : 0 ≤ e) (h1 : e < 20) (h6 : gt c e 6 ≤ 3) (hz : 0 ≤ z.2.2.2.2.2) (hl : z.2.2.2.2.2 + (apsL c e k).length ≤ 27) : shL (apsS c e k z) = shL z ++ (apsL c e k).map (recC c k) ∧ (apsS c e k z).2.2.2.2.2 = z.2.2.2.2.2 + (apsL c e k).length := by
  have e0 : (apsL c e k).map (recC c k) = (rgL 0 (gt c e 6).toNat).flatMap (fun x => if gt c e (9 + x) = k then [(e, x, gt c e (12 + x), gt c e (12 + x), gt c e (15 + x))] else []) := by
    unfold apsL
    rw [flatMap_map']
    refine flatMap_congr' _ (fun x hx => ?_)
    have hx := (mem_rgL _ _ _).mp hx
    split
    · rw [List.map_cons, List.map_nil, recC_ap h0 h1 hx.1 (by omega)]
    · rfl
  have el : ((apsL c e k).map (recC c k)).length = (apsL c e k).length := List.length_map ..
  rw [← el, e0]
  rw [← el, e0] at hl
  refine shL_lp (gt c e 6).toNat 0 z (fun j j0 j1 z hz hl => ?_) hz hl
  unfold apsf
  by_cases q : gt c e (9 + j) = k
  · simp only [if_pos q] at hl ⊢
    simp only [List.length_cons, List.length_nil] at hl ⊢
    obtain ⟨a1, a2⟩ := shL_add (z := z) (e1 := e) (e2 := j) (e3 := gt c e (12 + j)) (e4 := gt c e (12 + j)) (e5 := gt c e (15 + j)) hz (by omega)
    exact ⟨a1, by omega⟩
  · simp only [if_neg q, List.append_nil, List.length_nil]
    exact ⟨trivial, by omega⟩
theorem sh_gat (hw : ∀ i : Int, 0 ≤ i → i < n → 0 ≤ w i ∧ w i < 20) (hn : n ≤ 20) (h6 : ∀ e : Int, 0 ≤ e → e < 20 → gt c e 6 ≤ 3) (hl : (thL c w n a k).length ≤ 27) : shL (gatS c w n a k z) = (thL c w n a k).map (recC c k) ∧ (gatS c w n a k z).2.2.2.2.2 = (thL c w n a k).length := by
  have hwk : ∀ i : Int, 0 ≤ i → i < n → wka w n i = w i := fun i i0 i1 => by
    unfold wka
    rw [if_pos ⟨i0, i1, by omega⟩]
  have e0 : (thL c w n a k).map (recC c k) = (rgL 0 n.toNat).flatMap (fun i => (thC c a k (wka w n i)).map (recC c k)) := by
    unfold thL lsO
    rw [map_flatMap', flatMap_map']
    refine flatMap_congr' _ (fun i hi => ?_)
    have hi := (mem_rgL _ _ _).mp hi
    rw [hwk i hi.1 (by omega)]
  have el : ((thL c w n a k).map (recC c k)).length = (thL c w n a k).length := List.length_map ..
  rw [← el, e0]
  rw [← el, e0] at hl
  have := shL_lp (f := gaf c w n a k) (g := fun i => (thC c a k (wka w n i)).map (recC c k)) n.toNat 0 (clrS z) (fun j j0 j1 z hz hl => ?_) (Int.le_refl _) (by
    show (0 : Int) + _ ≤ 27
    omega)
  · unfold gatS
    rw [shL_clr, List.nil_append] at this
    refine ⟨this.1, ?_⟩
    rw [this.2]
    show (0 : Int) + _ = _
    omega
  · have hr := hw j j0 (by omega)
    have hj := hwk j j0 (by omega)
    unfold gaf
    rw [hj] at hl ⊢
    unfold thC at hl ⊢
    by_cases q : gt c (w j) 1 = a ∧ gt c (w j) 3 = 1
    · simp only [if_pos q] at hl ⊢
      by_cases q2 : gt c (w j) 0 = 1
      · simp only [if_pos q2] at hl ⊢
        rw [List.length_map] at hl ⊢
        exact sh_aps hr.1 hr.2 (h6 _ hr.1 hr.2) hz hl
      · simp only [if_neg q2] at hl ⊢
        by_cases q3 : 0 < gt c (w j) (20 + k)
        · simp only [if_pos q3, List.map_cons, List.map_nil, List.length_cons, List.length_nil, recC_br hr.1] at hl ⊢
          obtain ⟨a1, a2⟩ := shL_add (z := z) (e1 := w j) (e2 := -1) (e3 := gt c (w j) (22 + k)) (e4 := gt c (w j) (20 + k)) (e5 := gt c (w j) (18 + k)) hz (by omega)
          exact ⟨a1, by omega⟩
        · simp only [if_neg q3, List.map_nil, List.append_nil, List.length_nil]
          exact ⟨trivial, by omega⟩
    · simp only [if_neg q, List.map_nil, List.append_nil, List.length_nil]
      exact ⟨trivial, by omega⟩
/-- on one bus keys go as slots -/
theorem ke_slot (hs : gS A) (he : thM A e) (hf : thM A f) (h : A (23 * e + 2) = A (23 * f + 2)) : keM A e < keM A f ↔ A (23 * e + 3) < A (23 * f + 3) := by
  have h1 := sl_rg hs he
  have h2 := sl_rg hs hf
  have ce := uN_cases A e
  have hk : ∃ b : Int, keM A e = b + uN A e * (A (23 * e + 3) + 1) ∧ keM A f = b + uN A e * (A (23 * f + 3) + 1) := by
    rcases ke_rec hs he with ⟨q0, q1, q2⟩ | ⟨q0, q1, q2⟩ <;> rcases ke_rec hs hf with ⟨r0, r1, r2⟩ | ⟨r0, r1, r2⟩
    · refine ⟨0, by omega, ?_⟩
      have : uN A e = uN A f := by
        unfold uN
        rw [q1, r1]
      rw [this]
      omega
    · have := r0.1.1
      omega
    · have := q0.1.1
      omega
    · refine ⟨keM A (A (23 * e + 2)), q2, ?_⟩
      have : uN A e = uN A f := by
        unfold uN
        rw [q1, r1, h]
      rw [this, r2, h]
  obtain ⟨b, k1, k2⟩ := hk
  rw [k1, k2]
  rcases ce with ⟨c0, c1⟩ | ⟨c0, c1⟩ | ⟨c0, c1⟩ | ⟨c0, c1⟩ | ⟨c0, c1⟩ <;> rw [c1] <;> omega
theorem mem_apsL (h6 : 0 ≤ gt c e 6) : x ∈ apsL c e k ↔ ∃ b : Int, 0 ≤ b ∧ b < gt c e 6 ∧ gt c e (9 + b) = k ∧ x = 3 * e + b := by
  unfold apsL
  rw [List.mem_flatMap]
  constructor
  · rintro ⟨b, hb, hx⟩
    have := (mem_rgL _ _ _).mp hb
    by_cases q : gt c e (9 + b) = k
    · rw [if_pos q, List.mem_singleton] at hx
      exact ⟨b, this.1, by omega, q, hx⟩
    · rw [if_neg q] at hx
      exact absurd hx List.not_mem_nil
  · rintro ⟨b, b0, b1, b2, b3⟩
    refine ⟨b, (mem_rgL _ _ _).mpr ⟨b0, by omega⟩, ?_⟩
    rw [if_pos b2, List.mem_singleton]
    exact b3
/-- bounds of how many apertures there are -/
def HsB (c : Int → Int) : Prop := ∀ e : Int, 0 ≤ e → e < 20 → 0 ≤ gt c e 6 ∧ gt c e 6 ≤ 3
theorem mem_thC (h6 : 0 ≤ gt c e 6) : x ∈ thC c a k e ↔ gt c e 1 = a ∧ gt c e 3 = 1 ∧ ((gt c e 0 = 1 ∧ ∃ b : Int, 0 ≤ b ∧ b < gt c e 6 ∧ gt c e (9 + b) = k ∧ x = 3 * e + b) ∨ (gt c e 0 ≠ 1 ∧ 0 < gt c e (20 + k) ∧ x = 60 + e)) := by
  unfold thC
  by_cases q : gt c e 1 = a ∧ gt c e 3 = 1
  · rw [if_pos q]
    by_cases q2 : gt c e 0 = 1
    · rw [if_pos q2, mem_apsL h6]
      exact ⟨fun r => ⟨q.1, q.2, Or.inl ⟨q2, r⟩⟩, fun r => (r.2.2.resolve_right (fun s => s.1 q2)).2⟩
    · rw [if_neg q2]
      by_cases q3 : 0 < gt c e (20 + k)
      · rw [if_pos q3, List.mem_singleton]
        exact ⟨fun r => ⟨q.1, q.2, Or.inr ⟨q2, q3, r⟩⟩, fun r => (r.2.2.resolve_left (fun s => q2 s.1)).2.2⟩
      · rw [if_neg q3]
        exact ⟨fun r => absurd r List.not_mem_nil, fun r => r.2.2.elim (fun s => absurd s.1 q2) (fun s => absurd s.2.1 q3)⟩
  · rw [if_neg q]
    exact ⟨fun r => absurd r List.not_mem_nil, fun r => absurd ⟨r.1, r.2.1⟩ q⟩
theorem de_thC (h6 : 0 ≤ gt c e 6 ∧ gt c e 6 ≤ 3) (he : 0 ≤ e ∧ e < 20) (hx : x ∈ thC c a k e) : deM x = e ∧ 0 ≤ x ∧ x < 80 := by
  obtain ⟨-, -, ⟨-, b, b0, b1, -, rfl⟩ | ⟨-, -, rfl⟩⟩ := (mem_thC h6.1).mp hx
  · exact ⟨(de_ap he.1 he.2 b0 (by omega)).1, by omega, by omega⟩
  · exact ⟨(de_br he.1).1, by omega, by omega⟩
theorem mem_thL (hF : WkF A w n) (h6 : HsB c) : x ∈ thL c w n a k ↔ 0 ≤ x ∧ x < 80 ∧ thM A (deM x) ∧ x ∈ thC c a k (deM x) := by
  unfold thL
  rw [List.mem_flatMap]
  constructor
  · rintro ⟨e, he, hx⟩
    obtain ⟨i, i0, i1, i2⟩ := mem_lsO.mp he
    have ht : thM A e := (hF.2.2 e).mp ⟨i, i0, i1, i2⟩
    have hr := th_rg ht
    obtain ⟨d1, d2, d3⟩ := de_thC (h6 e hr.1 hr.2) hr hx
    rw [d1]
    exact ⟨d2, d3, ht, hx⟩
  · rintro ⟨x0, x1, ht, hx⟩
    obtain ⟨i, i0, i1, i2⟩ := (hF.2.2 _).mpr ht
    exact ⟨deM x, mem_lsO.mpr ⟨i, i0, i1, i2⟩, hx⟩
theorem pw_apsL (h0 : 0 ≤ e) (h1 : e < 20) (h6 : 0 ≤ gt c e 6 ∧ gt c e 6 ≤ 3) : List.Pairwise (fun x y => raM A x < raM A y) (apsL c e k) := by
  unfold apsL
  refine pw_flat _ (fun x _ => ?_) ?_
  · split
    · exact List.pairwise_singleton ..
    · exact List.Pairwise.nil
  · refine List.Pairwise.imp_of_mem ?_ (pw_rgL (gt c e 6).toNat 0)
    intro x y hx hy hxy u hu v hv
    have hx := (mem_rgL _ _ _).mp hx
    have hy := (mem_rgL _ _ _).mp hy
    have eu : u = 3 * e + x := by
      split at hu
      · exact List.mem_singleton.mp hu
      · exact absurd hu List.not_mem_nil
    have ev : v = 3 * e + y := by
      split at hv
      · exact List.mem_singleton.mp hv
      · exact absurd hv List.not_mem_nil
    obtain ⟨a1, a2, a3, a4⟩ := de_ap h0 h1 hx.1 (show x < 3 by omega)
    obtain ⟨b1, b2, b3, b4⟩ := de_ap h0 h1 hy.1 (show y < 3 by omega)
    rw [eu, ev]
    unfold raM
    rw [a1, b1, a3, b3, if_pos a4, if_pos b4]
    omega
theorem ra_rg (hs : gS A) (ht : thM A (deM x)) (h0 : 0 ≤ x) : 4 * A (23 * deM x + 3) ≤ raM A x ∧ raM A x ≤ 4 * A (23 * deM x + 3) + 2 := by
  unfold raM
  split <;> omega
theorem pw_thL (hc : SimW c A) (hs : gS A) (hF : WkF A w n) (h6 : HsB c) : List.Pairwise (fun x y => raM A x < raM A y) (thL c w n a k) := by
  unfold thL
  have hmem : ∀ e ∈ lsO w n, thM A e := fun e he => by
    obtain ⟨i, i0, i1, i2⟩ := mem_lsO.mp he
    exact (hF.2.2 e).mp ⟨i, i0, i1, i2⟩
  refine pw_flat _ (fun e he => ?_) ?_
  · have hr := th_rg (hmem e he)
    unfold thC
    split
    · split
      · exact pw_apsL hr.1 hr.2 (h6 e hr.1 hr.2)
      · split
        · exact List.pairwise_singleton ..
        · exact List.Pairwise.nil
    · exact List.Pairwise.nil
  · refine List.Pairwise.imp_of_mem ?_ (pw_lsO hF.2.1)
    intro e f he hf hk u hu v hv
    have te := hmem e he
    have tf := hmem f hf
    have re := th_rg te
    have rf := th_rg tf
    obtain ⟨u1, u2, u3⟩ := de_thC (h6 e re.1 re.2) re hu
    obtain ⟨v1, v2, v3⟩ := de_thC (h6 f rf.1 rf.2) rf hv
    have hu1 := ((mem_thC (h6 e re.1 re.2).1).mp hu).1
    have hv1 := ((mem_thC (h6 f rf.1 rf.2).1).mp hv).1
    rw [((hc e).2.2 te).1] at hu1
    rw [((hc f).2.2 tf).1] at hv1
    have hsl := (ke_slot hs te tf (by rw [hu1, hv1])).mp hk
    have ru := ra_rg (x := u) hs (by rw [u1]; exact te) u2
    have rv := ra_rg (x := v) hs (by rw [v1]; exact tf) v2
    rw [u1] at ru
    rw [v1] at rv
    omega
theorem pw_len {g : Int → Int} : ∀ (l : List Int) (lo hi : Int), List.Pairwise (fun x y => g x < g y) l → (∀ x ∈ l, lo ≤ g x ∧ g x < hi) → lo ≤ hi → (l.length : Int) ≤ hi - lo
  | [], lo, hi, _, _, h => by
    simp only [List.length_nil]
    omega
  | x :: l, lo, hi, h1, h2, h3 => by
    obtain ⟨a1, a2⟩ := List.pairwise_cons.mp h1
    have hx := h2 x List.mem_cons_self
    have := pw_len l (g x + 1) hi a2 (fun y hy => ⟨by have := a1 y hy; omega, (h2 y (List.mem_cons_of_mem _ hy)).2⟩) (by omega)
    rw [List.length_cons]
    omega
theorem flat_len {g : Int → List Int} {m : Nat} : ∀ (l : List Int), (∀ x ∈ l, (g x).length ≤ m) → (l.flatMap g).length ≤ m * (l.filter (fun x => !(g x).isEmpty)).length
  | [], _ => by simp
  | x :: l, h => by
    have h1 := h x List.mem_cons_self
    have h2 := flat_len l (fun y hy => h y (List.mem_cons_of_mem _ hy))
    rw [List.flatMap_cons, List.length_append, List.filter_cons]
    cases hg : g x with
    | nil => simpa using h2
    | cons y t =>
      rw [hg] at h1
      simp only [List.isEmpty_cons, Bool.not_false, if_true, List.length_cons] at h1 ⊢
      rw [Nat.mul_add]
      omega
theorem apsL_len (h6 : 0 ≤ gt c e 6 ∧ gt c e 6 ≤ 3) : (apsL c e k).length ≤ 3 := by
  have key : ∀ (m : Nat) (i : Int), ((rgL i m).flatMap (fun x => if gt c e (9 + x) = k then [3 * e + x] else [])).length ≤ m := by
    intro m
    induction m with
    | zero => exact fun _ => Nat.le_refl _
    | succ m ih =>
      intro i
      have := ih (i + 1)
      rw [rgL, List.flatMap_cons, List.length_append]
      split
      · simp only [List.length_cons, List.length_nil]
        omega
      · simp only [List.length_nil]
        omega
  have := key (gt c e 6).toNat 0
  unfold apsL
  omega
/-- a bus bears no more things than a shelf holds -/
theorem thL_len (hc : SimW c A) (hs : gS A) (hF : WkF A w n) (h6 : HsB c) : (thL c w n a k).length ≤ 24 := by
  have hmem : ∀ e ∈ lsO w n, thM A e := fun e he => by
    obtain ⟨i, i0, i1, i2⟩ := mem_lsO.mp he
    exact (hF.2.2 e).mp ⟨i, i0, i1, i2⟩
  have h1 := flat_len (g := thC c a k) (m := 3) (lsO w n) (fun e he => by
    have hr := th_rg (hmem e he)
    unfold thC
    split
    · split
      · exact apsL_len (h6 e hr.1 hr.2)
      · split
        · simp
        · simp
    · simp)
  have h2 : (((lsO w n).filter (fun x => !(thC c a k x).isEmpty)).length : Int) ≤ 8 - 0 := by
    have hat : ∀ e ∈ (lsO w n).filter (fun x => !(thC c a k x).isEmpty), thM A e ∧ A (23 * e + 2) = a := fun e he => by
      obtain ⟨q1, q2⟩ := List.mem_filter.mp he
      have te := hmem e q1
      refine ⟨te, ?_⟩
      rw [← ((hc e).2.2 te).1]
      by_cases r : gt c e 1 = a
      · exact r
      · exfalso
        unfold thC at q2
        rw [if_neg (fun s => r s.1)] at q2
        exact absurd q2 (by decide)
    refine pw_len (g := fun e => A (23 * e + 3)) _ 0 8 ?_ (fun e he => ?_) (by omega)
    · refine List.Pairwise.imp_of_mem ?_ (List.Pairwise.filter _ (pw_lsO hF.2.1))
      intro e f he hf hk
      obtain ⟨te, e2⟩ := hat e he
      obtain ⟨tf, f2⟩ := hat f hf
      exact (ke_slot hs te tf (by rw [e2, f2])).mp hk
    · have := sl_rg hs (hat e he).1
      omega
  unfold thL
  omega
theorem Cls_HsB (h : Cls c) : HsB c := fun e e0 e1 => (h e e0 e1).1
/-- what stands on a gathered shelf -/
theorem sh_gather (hc : SimW c A) (hs : gS A) (hF : WkF A w n) (h6 : HsB c) : shL (gatS c w n a k z) = (thL c w n a k).map (recC c k) ∧ (gatS c w n a k z).2.2.2.2.2 = (thL c w n a k).length ∧ (gatS c w n a k z).2.2.2.2.2 ≤ 24 := by
  have hl := thL_len (a := a) (k := k) hc hs hF h6
  obtain ⟨h1, h2⟩ := sh_gat (z := z) (a := a) (k := k) (c := c) (w := w) (fun i i0 i1 => th_rg (WkF_th hF i0 i1)) hF.1.2 (fun e e0 e1 => (h6 e e0 e1).2) (by omega)
  exact ⟨h1, h2, by omega⟩
/-- the things of a bus in a good state -/
theorem thL_now (hc : SimC c A) (g : gGd A) (hF : WkF A w n) (h6 : HsB c) (hk : 0 ≤ k ∧ k < 2) : x ∈ thL c w n a k ↔ 0 ≤ x ∧ x < 80 ∧ itM A x k ∧ A (23 * deM x + 2) = a := by
  rw [mem_thL hF h6]
  constructor
  · rintro ⟨x0, x1, ht, hx⟩
    refine ⟨x0, x1, ?_⟩
    have hr := th_rg ht
    have hd := sc_d hc ht
    obtain ⟨q1, q2, q3⟩ := (mem_thC (h6 _ hr.1 hr.2).1).mp hx
    have ho := (sc_on hc).mp q2
    refine ⟨⟨ho, ?_⟩, by rw [← hd.2.1]; exact q1⟩
    rcases q3 with ⟨r1, b, b0, b1, b2, b3⟩ | ⟨r1, r2, r3⟩
    · rw [hd.2.2.2.2.1] at b1
      have hm := (g.1.1 _ hr.1 hr.2).2.2.2.2.1
      have e1 : x % 3 = b := by omega
      rw [if_pos (by omega), e1]
      exact ⟨b1, by rw [← (hd.2.2.2.2.2.2.2.1 b b0 b1).1]; exact b2⟩
    · rw [if_neg (by omega)]
      have hb : onBr A (deM x) := by
        refine (sc_onBr hc).mp ⟨?_, q2⟩
        have h0 := hd.1
        have := (hc _ hr.1 hr.2).1
        omega
      rw [← ((sc_17 hc hb).2.2 k hk.1 hk.2).2]
      exact r2
  · rintro ⟨x0, x1, ⟨ho, hi⟩, ha⟩
    have hr := th_rg ho.1
    have hd := sc_d hc ho.1
    refine ⟨x0, x1, ho.1, (mem_thC (h6 _ hr.1 hr.2).1).mpr ⟨by rw [hd.2.1]; exact ha, (sc_on hc).mpr ho, ?_⟩⟩
    by_cases q : x < 60
    · left
      rw [if_pos q] at hi
      have hdx : deM x = x / 3 := if_pos q
      have hne : ¬ A (23 * deM x + 1) = 1 := fun r => by
        have := g.1.2.2.2.2.2.2.1 _ ⟨ho.1, r⟩
        omega
      have hc1 := (hc _ hr.1 hr.2).1
      refine ⟨by rw [hd.1]; omega, x % 3, by omega, by rw [hd.2.2.2.2.1]; exact hi.1, by rw [(hd.2.2.2.2.2.2.2.1 _ (by omega) hi.1).1]; exact hi.2, by omega⟩
    · right
      rw [if_neg q] at hi
      have hdx : deM x = x - 60 := if_neg q
      have hb : A (23 * deM x + 1) = 1 := by
        rcases (hc _ hr.1 hr.2).1 with r | r
        · have := g.1.2.2.2.2.2.2.2.2 _ k ⟨ho.1, r⟩ hk.1 hk.2
          omega
        · exact r
      refine ⟨by rw [hd.1]; omega, ?_, by omega⟩
      rw [((sc_17 hc ⟨ho, hb⟩).2.2 k hk.1 hk.2).2]
      exact hi
theorem rec_now (hc : SimC c A) (g : gGd A) (hk : 0 ≤ k ∧ k < 2) (x0 : 0 ≤ x) (x1 : x < 80) (hi : itM A x k) : szC c k x = wdT A x k ∧ bsC c k x = bgT A x k := by
  obtain ⟨ho, hi⟩ := hi
  have hr := th_rg ho.1
  have hd := sc_d hc ho.1
  unfold szC bsC wdT bgT
  by_cases q : x < 60
  · rw [if_pos q] at hi
    rw [if_pos q, if_pos q, if_pos q, if_pos q]
    have hdx : deM x = x / 3 := if_pos q
    obtain ⟨e1, e2, e3⟩ := hd.2.2.2.2.2.2.2.1 (x % 3) (by omega) hi.1
    unfold szT bsT
    rw [hdx] at e2 e3 ⊢
    exact ⟨e2, e3⟩
  · rw [if_neg q] at hi
    rw [if_neg q, if_neg q, if_neg q, if_neg q]
    have hdx : deM x = x - 60 := if_neg q
    have hb : A (23 * deM x + 1) = 1 := by
      rcases (hc _ hr.1 hr.2).1 with r | r
      · have := g.1.2.2.2.2.2.2.2.2 _ k ⟨ho.1, r⟩ hk.1 hk.2
        omega
      · exact r
    obtain ⟨e1, e2⟩ := (sc_17 hc ⟨ho, hb⟩).2.2 k hk.1 hk.2
    rw [hdx] at e1 e2 ⊢
    exact ⟨e2, e1⟩
end BI
