/-! NEEDS: one bus of the class -/
section DH
variable {A B S P D S' P' D' c c' w N G N' G' τ al sz bs' : Int → Int} {on : Int → Bool} {e f a b k t x y v n d i : Int} {l l' : List Int} {z : zSS}
/-- the class's cells while it measures -/
def MeC (c A : Int → Int) (on : Int → Bool) : Prop := SimW c A ∧ (∀ e, thM A e → gt c e 0 = 1 + A (23 * e + 1) ∧ (gt c e 3 = 1 ↔ on e = true) ∧ gt c e 6 = A (23 * e + 5) ∧ gt c e 5 = A (23 * e + 16) ∧ ∀ x : Int, 0 ≤ x → x < A (23 * e + 5) → gt c e (9 + x) = A (23 * e + (6 + x)) ∧ gt c e (12 + x) = A (23 * e + (9 + x))) ∧ HsB c
theorem me_th (g : gT A) (hF : WkF A w n) (hon : ∀ e, on e = true → thM A e) (hm : MeC c A on) (h20 : ∀ e, on e = true → 0 ≤ gt c e (20 + k)) : t ∈ thL c w n a k ↔ itP A on (szC c k) k a t := by
  obtain ⟨m1, m2, m3⟩ := hm
  rw [mem_thL hF m3]
  constructor
  · rintro ⟨t0, t1, th, tc⟩
    have hr := th_rg th
    have h5 := MG_many g.1 hr
    obtain ⟨q0, q3, q6, q5, qx⟩ := m2 _ th
    obtain ⟨u1, u2, u3⟩ := (mem_thC (m3 _ hr.1 hr.2).1).mp tc
    have ha := ((m1 (deM t)).2.2 th).1
    refine ⟨t0, t1, q3.mp u2, by rw [← ha]; exact u1, ?_⟩
    rcases u3 with ⟨v1, b, b0, b1, b2, b3⟩ | ⟨v1, v2, v3⟩
    · have hb : b < A (23 * deM t + 5) := by omega
      have t6 : t < 60 := by omega
      have hd : deM t = t / 3 := if_pos t6
      rw [if_pos t6, show t % 3 = b by omega]
      exact ⟨hb, by rw [← (qx b b0 hb).1]; exact b2⟩
    · have t6 : ¬ t < 60 := by omega
      rw [if_neg t6]
      have h1 := (g.1 _ hr.1 hr.2).1
      refine ⟨by omega, ?_⟩
      unfold szC
      rw [if_neg t6]
      omega
  · rintro ⟨t0, t1, to, ta, ti⟩
    have hth := hon _ to
    have hr := th_rg hth
    obtain ⟨q0, q3, q6, q5, qx⟩ := m2 _ hth
    have ha := ((m1 (deM t)).2.2 hth).1
    refine ⟨t0, t1, hth, (mem_thC (m3 _ hr.1 hr.2).1).mpr ⟨by rw [ha]; exact ta, q3.mpr to, ?_⟩⟩
    by_cases t6 : t < 60
    · left
      have hd : deM t = t / 3 := if_pos t6
      rw [if_pos t6] at ti
      have hbr : A (23 * deM t + 1) = 0 := by
        have h1 := (g.1 _ hr.1 hr.2).1
        refine Decidable.byContradiction fun q => ?_
        have := g.2.2.2.2.2.2.1 _ ⟨hth, (show A (23 * deM t + 1) = 1 by omega)⟩
        omega
      exact ⟨by omega, t % 3, by omega, by omega, by rw [(qx _ (by omega) ti.1).1]; exact ti.2, by omega⟩
    · right
      have hd : deM t = t - 60 := if_neg t6
      rw [if_neg t6] at ti
      have h2 := ti.2
      unfold szC at h2
      rw [if_neg t6] at h2
      have := h20 _ to
      exact ⟨by omega, by omega, by omega⟩
theorem lyG_uniq (h : ∀ t, t ∈ l ↔ t ∈ l') : lyG P l = lyG P l' := by
  obtain ⟨a1, a2, a3⟩ := lyG_ge (P := P) l
  obtain ⟨b1, b2, b3⟩ := lyG_ge (P := P) l'
  have h1 := a3 _ b2 (fun t ht => b1 t ((h t).mp ht))
  have h2 := b3 _ a2 (fun t ht => a1 t ((h t).mpr ht))
  omega
theorem ga_ly : ∀ (m : Nat) (i v : Int), 0 ≤ v → lp (gaf' al) m i v = max v (lyG al (rgL i m))
  | 0, i, v, h => by
    simp only [lp, rgL, lyG]
    omega
  | m + 1, i, v, h => by
    simp only [lp, rgL, lyG]
    have e : gaf' al i v = max v (al i) := rfl
    rw [ga_ly m (i + 1) _ (by rw [e]; omega), e]
    omega
theorem lyG_map : ∀ (l : List Int), lyG P (l.map τ) = lyG (fun i => P (τ i)) l
  | [] => rfl
  | t :: l => by
    simp only [List.map_cons, lyG, lyG_map l]
theorem lyf_keep : ∀ (m : Nat) (i : Int) (y : Int × (Int → Int)) (j : Int), j < i → (lp (lyf al sz) m i y).2 j = y.2 j
  | 0, _, _, _, _ => rfl
  | m + 1, i, y, j, hj => by
    simp only [lp]
    rw [lyf_keep m (i + 1) _ j (by omega)]
    show ups y.2 i _ j = y.2 j
    rw [ups_ne _ _ (by omega)]
theorem ly_run : ∀ (m : Nat) (i : Int) (y : Int × (Int → Int)), (0 ≤ y.1 ∧ y.1 + m * 8000300 ≤ 1000000000) → (∀ j : Int, i ≤ j → j < i + m → (al j = P (τ j) ∧ sz j = S (τ j)) ∧ (∃ q : Nat, q ≤ 8 ∧ P (τ j) = 2 ^ q) ∧ 0 ≤ S (τ j) ∧ S (τ j) ≤ 8000000) → (∀ j : Int, i ≤ j → j < i + m → D (τ j) = (lp (lyf al sz) m i y).2 j) → (lp (lyf al sz) m i y).1 = lyE S P ((rgL i m).map τ) y.1 ∧ lyD S P D ((rgL i m).map τ) y.1
  | 0, i, y, _, _, _ => ⟨rfl, trivial⟩
  | m + 1, i, y, hv, h, hD => by
    obtain ⟨⟨a1, a2⟩, ⟨q, q1, q2⟩, s1, s2⟩ := h i (Int.le_refl _) (by omega)
    have hp := pow_le8 q q1
    have er : rup y.1 (al i) = rupM y.1 (P (τ i)) := by
      rw [a1, q2]
      exact rup_eq (n := q) (by omega) (by omega)
    have hr := rupM_bd (v := y.1) (s := P (τ i)) hv.1 (by omega)
    have e1 : lyf al sz i y = (rupM y.1 (P (τ i)) + S (τ i), ups y.2 i (rupM y.1 (P (τ i)))) := by
      unfold lyf
      rw [er, a2]
    have hDi := hD i (Int.le_refl _) (by omega)
    simp only [lp] at hDi ⊢
    rw [lyf_keep m (i + 1) _ i (by omega), e1] at hDi
    have hDi' : D (τ i) = rupM y.1 (P (τ i)) := by
      rw [hDi]
      exact ups_at ..
    simp only [rgL, List.map_cons, lyE, lyD]
    have ih := ly_run m (i + 1) (lyf al sz i y) (by rw [e1]; dsimp only; omega) (fun j j0 j1 => h j (by omega) (by omega)) (fun j j0 j1 => by
      rw [hD j (by omega) (by omega)]
      rfl)
    rw [e1] at ih
    rw [e1]
    exact ⟨ih.1, hDi', ih.2⟩
theorem ky_lt {ra rb pa pb sa sb : Int} (hs : (0 ≤ sa ∧ sa ≤ 8000000) ∧ (0 ≤ sb ∧ sb ≤ 8000000)) (hr : (0 ≤ ra ∧ ra ≤ 31) ∧ (0 ≤ rb ∧ rb ≤ 31)) : -(pa * 1073741824) - sa * 64 + ra < -(pb * 1073741824) - sb * 64 + rb ↔ pb < pa ∨ (pa = pb ∧ (sb < sa ∨ (sa = sb ∧ ra < rb))) := by
  omega
/-- one bus of the class -/
theorem nd_sp (g : gT A) (hF : WkF A w n) (hon : ∀ e, on e = true → thM A e) (hm : MeC c A on) (h20 : ∀ e, on e = true → 0 ≤ gt c e (20 + k)) (hb : ∀ t, itP A on (szC c k) k a t → (0 ≤ szC c k t ∧ szC c k t ≤ 8000000) ∧ ∃ q : Nat, q ≤ 8 ∧ alC c k t = 2 ^ q) : ∃ l D, BusL A on k (szC c k) (alC c k) a l ∧ lyD (szC c k) (alC c k) D l 0 ∧ (ndS c w n a k z).1 = lyE (szC c k) (alC c k) l 0 ∧ galS (gatS c w n a k z) = lyG (alC c k) l ∧ galS (ndS c w n a k z).2 = lyG (alC c k) l ∧ shL (ndS c w n a k z).2 = l.map (fun t => (deM t, apV t, alC c k t, szC c k t, D t)) ∧ (0 ≤ (ndS c w n a k z).2.2.2.2.2.2 ∧ (ndS c w n a k z).2.2.2.2.2.2 ≤ 24) := by
  have hs := gT_S g
  have hlen := thL_len (a := a) (k := k) hm.1 hs hF hm.2.2
  obtain ⟨g1, g2⟩ := sh_gat (z := z) (a := a) (k := k) (c := c) (w := w) (n := n) (fun i i0 i1 => th_rg (WkF_th hF i0 i1)) hF.1.2 (fun e e0 e1 => (hm.2.2 e e0 e1).2) (by omega)
  have hmem := fun t => me_th (t := t) (a := a) (k := k) g hF hon hm h20
  have hpw := pw_thL (a := a) (k := k) hm.1 hs hF hm.2.2
  generalize hZ : gatS c w n a k z = Z at *
  have hn0 : 0 ≤ Z.2.2.2.2.2 ∧ Z.2.2.2.2.2 ≤ 24 := by omega
  obtain ⟨uu, w1, w2⟩ := map_idx Z.2.2.2.2.2.toNat 0 (rowZ Z) _ g1
  obtain ⟨σ, ⟨s1, s2, s3⟩, s4⟩ := ord_sp Z hn0.1 (by omega)
  have hit : ∀ i : Int, 0 ≤ i → i < Z.2.2.2.2.2 → itP A on (szC c k) k a (uu i) := fun i i0 i1 => (hmem _).mp (by
    rw [w2]
    exact List.mem_map.mpr ⟨i, (mem_rgL _ _ _).mpr ⟨i0, by omega⟩, rfl⟩)
  have hrow : ∀ i : Int, 0 ≤ i → i < Z.2.2.2.2.2 → Z.2.2.1 i = alC c k (uu i) ∧ Z.2.2.2.1 i = szC c k (uu i) := fun i i0 i1 => by
    have h := w1 i i0 (by omega)
    unfold rowZ recC at h
    simp only [Prod.mk.injEq] at h
    exact ⟨h.2.2.1, h.2.2.2.1⟩
  have hra : ∀ t, itP A on (szC c k) k a t → 0 ≤ raM A t ∧ raM A t ≤ 31 := fun t ht => by
    have h1 := sl_rg hs (hon _ ht.2.2.1)
    have h2 := ra_rg (x := t) hs (hon _ ht.2.2.1) ht.1
    omega
  have hkey : ∀ a' b' : Int, 0 ≤ a' → a' < b' → b' < Z.2.2.2.2.2 → kyN A (szC c k) (alC c k) (uu (σ a')) < kyN A (szC c k) (alC c k) (uu (σ b')) := fun a' b' a0 ab b1 => by
    have h := s4 a' b' a0 ab b1
    obtain ⟨-, x0, x1⟩ := s1 a' a0 (by omega)
    obtain ⟨-, y0, y1⟩ := s1 b' (by omega) b1
    have hx := hit _ x0 x1
    have hy := hit _ y0 y1
    unfold kyN
    refine (ky_lt ⟨(hb _ hx).1, (hb _ hy).1⟩ ⟨hra _ hx, hra _ hy⟩).mpr ?_
    unfold lt3 at h
    rw [(hrow _ x0 x1).1, (hrow _ x0 x1).2, (hrow _ y0 y1).1, (hrow _ y0 y1).2] at h
    rcases h with h | ⟨h1, h | ⟨h2, h3⟩⟩
    · exact Or.inl h
    · exact Or.inr ⟨h1, Or.inl h⟩
    · rw [w2] at hpw
      exact Or.inr ⟨h1, Or.inr ⟨h2, pw_idx _ _ hpw _ _ x0 h3 (by omega)⟩⟩
  have hBL : BusL A on k (szC c k) (alC c k) a ((rgL 0 Z.2.2.2.2.2.toNat).map (fun i => uu (σ i))) := by
    refine ⟨pw_of_idx (fun a' b' a0 ab b1 => hkey a' b' a0 ab (by omega)), fun t => ?_⟩
    rw [← hmem, w2, List.mem_map, List.mem_map]
    constructor
    · rintro ⟨i, hi, rfl⟩
      have hi := (mem_rgL _ _ _).mp hi
      obtain ⟨-, x0, x1⟩ := s1 i hi.1 (by omega)
      exact ⟨σ i, (mem_rgL _ _ _).mpr ⟨x0, by omega⟩, rfl⟩
    · rintro ⟨i, hi, rfl⟩
      have hi := (mem_rgL _ _ _).mp hi
      obtain ⟨j, j0, j1, j2⟩ := s2 i hi.1 (by omega)
      exact ⟨j, (mem_rgL _ _ _).mpr ⟨j0, by omega⟩, by rw [j2]⟩
  have hOr : ∀ i : Int, 0 ≤ i → i < Z.2.2.2.2.2 → rowZ (ordS Z) i = recC c k (uu (σ i)) := fun i i0 i1 => by
    obtain ⟨r1, x0, x1⟩ := s1 i i0 i1
    rw [r1]
    exact w1 _ x0 (by omega)
  have hOr2 : ∀ i : Int, 0 ≤ i → i < Z.2.2.2.2.2 → ((ordS Z).2.2.1 i = alC c k (uu (σ i)) ∧ (ordS Z).2.2.2.1 i = szC c k (uu (σ i))) ∧ (ordS Z).1 i = deM (uu (σ i)) ∧ (ordS Z).2.1 i = apV (uu (σ i)) := fun i i0 i1 => by
    have h := hOr i i0 i1
    unfold rowZ recC at h
    simp only [Prod.mk.injEq] at h
    exact ⟨⟨h.2.2.1, h.2.2.2.1⟩, h.1, h.2.1⟩
  have eN : (ordS Z).2.2.2.2.2 = Z.2.2.2.2.2 := s3
  have eNd : ndS c w n a k z = ((layS (ordS Z)).1, setB (ordS Z) (layS (ordS Z)).2) := by
    unfold ndS ordC
    rw [hZ]
  have eL : layS (ordS Z) = lp (lyf (ordS Z).2.2.1 (ordS Z).2.2.2.1) Z.2.2.2.2.2.toNat 0 (0, (ordS Z).2.2.2.2.1) := by
    unfold layS
    rw [eN, show min Z.2.2.2.2.2 27 = Z.2.2.2.2.2 by omega]
  -- where each stands, by its number
  have hinj : ∀ i j : Int, 0 ≤ i → i < Z.2.2.2.2.2 → 0 ≤ j → j < Z.2.2.2.2.2 → uu (σ i) = uu (σ j) → i = j := fun i j i0 i1 j0 j1 h => by
    rcases Int.lt_trichotomy i j with q | q | q
    · have := hkey i j i0 q j1
      rw [h] at this
      omega
    · exact q
    · have := hkey j i j0 q i1
      rw [h] at this
      omega
  have hD : ∀ j : Int, 0 ≤ j → j < Z.2.2.2.2.2 → (fun t => (layS (ordS Z)).2 (ff (fun i => decide (uu (σ i) = t)) Z.2.2.2.2.2.toNat 0)) (uu (σ j)) = (layS (ordS Z)).2 j := fun j j0 j1 => by
    show (layS (ordS Z)).2 (ff (fun i => decide (uu (σ i) = uu (σ j))) Z.2.2.2.2.2.toNat 0) = _
    rw [ff_at (e := j) j0 (by omega) (decide_eq_true rfl) (fun i i0 i1 hi => hinj i j i0 (by omega) j0 j1 (of_decide_eq_true hi))]
  generalize (fun t => (layS (ordS Z)).2 (ff (fun i => decide (uu (σ i) = t)) Z.2.2.2.2.2.toNat 0)) = D at hD
  have hrun := ly_run (S := szC c k) (P := alC c k) (D := D) (τ := fun i => uu (σ i)) (al := (ordS Z).2.2.1) (sz := (ordS Z).2.2.2.1) Z.2.2.2.2.2.toNat 0 (0, (ordS Z).2.2.2.2.1) (by dsimp only; omega) (fun j j0 j1 => by
    obtain ⟨-, x0, x1⟩ := s1 j j0 (by omega)
    have h1 := hb _ (hit _ x0 x1)
    exact ⟨(hOr2 j j0 (by omega)).1, h1.2, h1.1⟩) (fun j j0 j1 => by
    rw [hD j j0 (by omega), eL])
  rw [← eL] at hrun
  refine ⟨_, D, hBL, hrun.2, ?_, ?_, ?_, ?_, ?_⟩
  · rw [eNd]
    exact hrun.1
  · have e1 : galS Z = lp (gaf' Z.2.2.1) Z.2.2.2.2.2.toNat 0 0 := by
      unfold galS
      rw [show min Z.2.2.2.2.2 27 = Z.2.2.2.2.2 by omega]
    rw [e1, ga_ly _ _ _ (Int.le_refl _)]
    have e2 : lyG Z.2.2.1 (rgL 0 Z.2.2.2.2.2.toNat) = lyG (alC c k) ((rgL 0 Z.2.2.2.2.2.toNat).map uu) := by
      rw [lyG_map]
      exact lyG_congr _ (fun i hi => by
        have hi := (mem_rgL _ _ _).mp hi
        exact (hrow i hi.1 (by omega)).1)
    rw [e2, ← w2, lyG_uniq (l := thL c w n a k) (l' := (rgL 0 Z.2.2.2.2.2.toNat).map (fun i => uu (σ i))) (fun t => by rw [hmem, hBL.2])]
    have := (lyG_ge (P := alC c k) ((rgL 0 Z.2.2.2.2.2.toNat).map (fun i => uu (σ i)))).2.1
    omega
  · rw [eNd]
    have e1 : galS (setB (ordS Z) (layS (ordS Z)).2) = lp (gaf' (ordS Z).2.2.1) Z.2.2.2.2.2.toNat 0 0 := by
      rw [galS_setB]
      unfold galS
      rw [eN, show min Z.2.2.2.2.2 27 = Z.2.2.2.2.2 by omega]
    rw [e1, ga_ly _ _ _ (Int.le_refl _)]
    have e2 : lyG (ordS Z).2.2.1 (rgL 0 Z.2.2.2.2.2.toNat) = lyG (alC c k) ((rgL 0 Z.2.2.2.2.2.toNat).map (fun i => uu (σ i))) := by
      rw [lyG_map]
      exact lyG_congr _ (fun i hi => by
        have hi := (mem_rgL _ _ _).mp hi
        exact (hOr2 i hi.1 (by omega)).1.1)
    rw [e2]
    have := (lyG_ge (P := alC c k) ((rgL 0 Z.2.2.2.2.2.toNat).map (fun i => uu (σ i)))).2.1
    omega
  · rw [eNd, shL_row]
    have e1 : (setB (ordS Z) (layS (ordS Z)).2).2.2.2.2.2 = Z.2.2.2.2.2 := eN
    rw [e1, List.map_map]
    refine List.map_congr_left (fun i hi => ?_)
    have hi := (mem_rgL _ _ _).mp hi
    have h2 := hOr2 i hi.1 (by omega)
    have h3 := hD i hi.1 (by omega)
    unfold rowZ setB
    dsimp only [Function.comp]
    rw [h2.1.1, h2.1.2, h2.2.1, h2.2.2, h3]
  · rw [eNd]
    have e1 : (setB (ordS Z) (layS (ordS Z)).2).2.2.2.2.2 = Z.2.2.2.2.2 := eN
    rw [e1]
    exact hn0
end DH
