/-! POWER-UP: the class lays down -/
section FF1
variable {X Y : zM} {c c' c0 cR cm cS A B S D w sp An o O0 : Int → Int} {e f a b k t x v n N d i q bg : Int} {on on' : Int → Bool} {r : zLy} {z Z : zSS} {y : zPw} {m : Nat} {uu : Int → Int}
/-- where the class keeps a thing's place -/
def fldP (k t : Int) : Int := if t < 60 then 15 + t % 3 else 18 + k
/-- places alone differ -/
def LyC (c cm : Int → Int) : Prop := ∀ e f : Int, ¬ (15 ≤ f ∧ f < 20) → gt c e f = gt cm e f
theorem fld_inj (ht : 0 ≤ t ∧ t < 80) (hx : 0 ≤ x ∧ x < 80) (hd : deM t = deM x) {k' : Int} (hk : 0 ≤ k ∧ 0 ≤ k') (hf : fldP k t = fldP k' x) : t = x := by
  unfold fldP at hf
  unfold deM at hd
  split at hf <;> split at hf <;> simp only [*, if_true, if_false] at hd <;> omega
theorem fld_rg (ht : 0 ≤ t ∧ t < 80) (hk : 0 ≤ k ∧ k < 2) : 15 ≤ fldP k t ∧ fldP k t < 20 := by
  unfold fldP
  split <;> omega
theorem fld_ap (ht : 0 ≤ t ∧ t < 80) : (if apV t = -1 then 18 + k else 15 + apV t) = fldP k t := by
  unfold apV fldP
  by_cases q : t < 60
  · simp only [if_pos q]
    rw [if_neg (by omega)]
  · simp only [if_neg q, if_true]
/-- one bus's things are written -/
theorem lb_run (hu : ∀ i : Int, 0 ≤ i → i < n → (0 ≤ uu i ∧ uu i < 80) ∧ (0 ≤ deM (uu i) ∧ deM (uu i) < 20)) (hinj : ∀ i j : Int, 0 ≤ i → i < n → 0 ≤ j → j < n → uu i = uu j → i = j) (hk : 0 ≤ k ∧ k < 2) (hz : ∀ i : Int, 0 ≤ i → i < n → Z.1 i = deM (uu i) ∧ Z.2.1 i = apV (uu i) ∧ Z.2.2.2.2.1 i = D (uu i)) : ∀ (m : Nat) (i : Int) (c : Int → Int), 0 ≤ i → i + m ≤ n → (∀ j : Int, i ≤ j → j < i + m → gt (lp (lbf Z bg k) m i c) (deM (uu j)) (fldP k (uu j)) = bg + D (uu j)) ∧ ∀ e f : Int, (∀ j : Int, i ≤ j → j < i + m → ¬ (e = deM (uu j) ∧ f = fldP k (uu j))) → gt (lp (lbf Z bg k) m i c) e f = gt c e f
  | 0, i, c, _, _ => ⟨fun j j0 j1 => by omega, fun _ _ _ => rfl⟩
  | m + 1, i, c, h0, h1 => by
    obtain ⟨u1, u2⟩ := hu i h0 (by omega)
    obtain ⟨z1, z2, z3⟩ := hz i h0 (by omega)
    have hf := fld_rg u1 hk
    have ec : lbf Z bg k i c = stc c (deM (uu i)) (fldP k (uu i)) (bg + D (uu i)) := by
      unfold lbf
      rw [z1, z2, z3, fld_ap u1]
    obtain ⟨i1, i2⟩ := lb_run hu hinj hk hz m (i + 1) (lbf Z bg k i c) (by omega) (by omega)
    simp only [lp]
    refine ⟨fun j j0 j1 => ?_, fun e f h => ?_⟩
    · by_cases q : j = i
      · rw [q, i2 _ _ (fun j' j0' j1' s => by
          obtain ⟨v1, v2⟩ := hu j' (by omega) (by omega)
          have := hinj i j' h0 (by omega) (by omega) (by omega) (fld_inj u1 v1 s.1 (by omega) s.2)
          omega), ec, gt_stc, if_pos ⟨rfl, rfl, u2.1, u2.2, by omega, by omega⟩]
      · exact i1 j (by omega) (by omega)
    · rw [i2 e f (fun j' j0' j1' => h j' (by omega) (by omega)), ec, gt_stc, if_neg (fun s => h i (Int.le_refl _) (by omega) ⟨s.1, s.2.1⟩)]
/-- what is measured is known where places alone differ -/
theorem ly_MeC (hL : LyC c cm) (h : MeC cm A on) (hM : MG A) : MeC c A on := by
  refine ⟨SimW_gt h.1 (fun e f f0 f1 => hL e f (by omega)), fun e he => ?_, fun e e0 e1 => by rw [hL e 6 (by omega)]; exact h.2.2 e e0 e1⟩
  obtain ⟨q1, q2, q3, q4, q5⟩ := h.2.1 e he
  have h5 := MG_many hM (th_rg he)
  rw [hL e 0 (by omega), hL e 3 (by omega), hL e 6 (by omega), hL e 5 (by omega)]
  refine ⟨q1, q2, q3, q4, fun x x0 x1 => ?_⟩
  rw [hL e (9 + x) (by omega), hL e (12 + x) (by omega)]
  exact q5 x x0 x1
theorem ly_sz (hL : LyC c cm) (hM : ∀ t : Int, True) (hk : 0 ≤ k ∧ k < 2) : szC c k = szC cm k ∧ alC c k = alC cm k := by
  refine ⟨funext fun t => ?_, funext fun t => ?_⟩
  · unfold szC
    split
    · exact hL _ _ (by omega)
    · exact hL _ _ (by omega)
  · unfold alC
    split
    · exact hL _ _ (by omega)
    · exact hL _ _ (by omega)
/-- the class's things on a bus, where places alone differ -/
theorem ly_bus (hP : PwI cR A on w n cm) (hk : 0 ≤ k ∧ k < 2) (hB : ∀ e, on e = true → A (23 * e + 1) = 1 → BrC cm A on k e) (hN : NdK A on k r) (hL : LyC c cm) : (∀ e, on e = true → A (23 * e + 1) = 1 → gt c e (20 + k) = teS k r (60 + e)) ∧ ∀ z a, (a = -1 ∨ (on a = true ∧ A (23 * a + 1) = 1)) → ∃ l : List Int, l.Nodup ∧ (∀ t, t ∈ l ↔ itP A on (teS k r) k a t) ∧ shL (ndS c w n a k z).2 = l.map (fun t => (deM t, apV t, alC c k t, szC c k t, teD k r t)) ∧ (0 ≤ (ndS c w n a k z).2.2.2.2.2.2 ∧ (ndS c w n a k z).2.2.2.2.2.2 ≤ 24) := by
  obtain ⟨p1, p2, p3, p4, p5, p6, p7, p8, p9, p10, p11⟩ := id hP
  obtain ⟨es, ea⟩ := ly_sz hL (fun _ => trivial) hk
  have hm := ly_MeC hL p3 p1.1
  have hW : MsW c on k := fun e he => by
    rw [hL e (20 + k) (by omega), hL e (22 + k) (by omega), hL e 0 (by omega)]
    exact p8 k hk.1 hk.2 e he
  have hB' : ∀ e, on e = true → A (23 * e + 1) = 1 → BrC c A on k e := fun e he hb => by
    have := hB e he hb
    unfold BrC at this ⊢
    rw [hL e (20 + k) (by omega), hL e (22 + k) (by omega), es, ea]
    exact this
  have hz : ∃ z0 : zSS, True := ⟨((fun _ => 0), (fun _ => 0), (fun _ => 0), (fun _ => 0), (fun _ => 0), 0), trivial⟩
  obtain ⟨z0, -⟩ := hz
  obtain ⟨D, d1, d2⟩ := nds_cls (z := z0) p1 p2 p4 hm hW hB'
  obtain ⟨u1, u2, u3, u4⟩ := NdS_uniq (gT_S p1) p4 d1 hN.1
  have h20 : ∀ e, on e = true → A (23 * e + 1) = 1 → gt c e (20 + k) = teS k r (60 + e) := fun e he hb => by
    have h := (u1 e he hb).1
    have hd := de_br (th_rg (p4 e he)).1
    rw [(br_cells (c := c) (k := k) hd.2.2).1, hd.1] at h
    exact h
  have hiff : ∀ a t, itP A on (szC c k) k a t ↔ itP A on (teS k r) k a t := fun a t => by
    constructor
    · intro h
      obtain ⟨t0, t1, t2, t3, t4⟩ := id h
      refine ⟨t0, t1, t2, t3, ?_⟩
      by_cases h6 : t < 60
      · rw [if_pos h6] at t4 ⊢
        exact t4
      · obtain ⟨e1, e2⟩ := it_br h h6
        rw [if_neg h6] at t4 ⊢
        refine ⟨t4.1, ?_⟩
        have := t4.2
        rw [(br_cells (c := c) (k := k) h6).1, h20 _ t2 e2, ← e1] at this
        exact this
    · intro h
      obtain ⟨t0, t1, t2, t3, t4⟩ := id h
      refine ⟨t0, t1, t2, t3, ?_⟩
      by_cases h6 : t < 60
      · rw [if_pos h6] at t4 ⊢
        exact t4
      · obtain ⟨e1, e2⟩ := it_br h h6
        rw [if_neg h6] at t4 ⊢
        refine ⟨t4.1, ?_⟩
        rw [(br_cells (c := c) (k := k) h6).1, h20 _ t2 e2, ← e1]
        exact t4.2
  refine ⟨h20, fun z a ha => ?_⟩
  obtain ⟨q1, -, l, l1, l2, l3, l4, l5⟩ := d2 a z
  have hDa : ∀ t, itP A on (szC c k) k a t → D t = teD k r t := fun t ht => by
    rcases ha with q | ⟨q, q'⟩
    · subst q
      exact u4 t ht
    · exact (u1 a q q').2.2.2.2 t ht
  refine ⟨l, List.Pairwise.imp (fun hxy q => by rw [q] at hxy; omega) l1.1, fun t => by rw [l1.2, hiff], ?_, l5⟩
  rw [l4]
  refine List.map_congr_left (fun t ht => ?_)
  rw [hDa t ((l1.2 t).mp ht)]
/-- a bus is laid down by the class -/
theorem lab_step (hP : PwI cR A on w n cm) (hk : 0 ≤ k ∧ k < 2) (hB : ∀ e, on e = true → A (23 * e + 1) = 1 → BrC cm A on k e) (hN : NdK A on k r) (hL : LyC c cm) (ha : a = -1 ∨ (on a = true ∧ A (23 * a + 1) = 1)) (hbg : begf c a k = bg) : LyC (labS c w n a k z).1 cm ∧ (∀ t, itP A on (teS k r) k a t → gt (labS c w n a k z).1 (deM t) (fldP k t) = bg + teD k r t) ∧ (∀ e f : Int, (∀ t, itP A on (teS k r) k a t → ¬ (e = deM t ∧ f = fldP k t)) → gt (labS c w n a k z).1 e f = gt c e f) ∧ ((0 ≤ bg ∧ bg ≤ 1024) ∨ (∀ t, ¬ itP A on (teS k r) k a t) → LBH (ndS c w n a k z).2 bg) := by
  obtain ⟨h20, hb⟩ := ly_bus hP hk hB hN hL
  obtain ⟨l, l1, l2, l3, l4⟩ := hb z a ha
  obtain ⟨p1, p2, p3, p4, p5, p6, p7, p8, p9, p10, p11⟩ := id hP
  have eL : (labS c w n a k z).1 = lp (lbf (ndS c w n a k z).2 bg k) (min (ndS c w n a k z).2.2.2.2.2.2 27).toNat 0 c := by
    rw [← hbg]
    rfl
  rw [eL]
  generalize (ndS c w n a k z).2 = Z at *
  have g1 := l3
  rw [shL_row] at g1
  obtain ⟨uu, w1, w2⟩ := map_idx Z.2.2.2.2.2.toNat 0 (rowZ Z) _ g1
  have hin : ∀ i : Int, 0 ≤ i → i < Z.2.2.2.2.2 → itP A on (teS k r) k a (uu i) := fun i i0 i1 => (l2 _).mp (by
    rw [w2]
    exact List.mem_map.mpr ⟨i, (mem_rgL _ _ _).mpr ⟨i0, by omega⟩, rfl⟩)
  have hu : ∀ i : Int, 0 ≤ i → i < Z.2.2.2.2.2 → (0 ≤ uu i ∧ uu i < 80) ∧ (0 ≤ deM (uu i) ∧ deM (uu i) < 20) := fun i i0 i1 => by
    have := hin i i0 i1
    exact ⟨⟨this.1, this.2.1⟩, de_rg ⟨this.1, this.2.1⟩⟩
  have hinj : ∀ i j : Int, 0 ≤ i → i < Z.2.2.2.2.2 → 0 ≤ j → j < Z.2.2.2.2.2 → uu i = uu j → i = j := fun i j i0 i1 j0 j1 h => by
    rw [w2] at l1
    have hp : List.Pairwise (fun x y => x ≠ y) ((rgL 0 Z.2.2.2.2.2.toNat).map uu) := l1
    rcases Int.lt_trichotomy i j with q | q | q
    · exact absurd h (pw_idx _ _ hp i j i0 q (by omega))
    · exact q
    · exact absurd h.symm (pw_idx _ _ hp j i j0 q (by omega))
  have hz : ∀ i : Int, 0 ≤ i → i < Z.2.2.2.2.2 → Z.1 i = deM (uu i) ∧ Z.2.1 i = apV (uu i) ∧ Z.2.2.2.2.1 i = teD k r (uu i) := fun i i0 i1 => by
    have h := w1 i i0 (by omega)
    unfold rowZ at h
    simp only [Prod.mk.injEq] at h
    exact ⟨h.1, h.2.1, h.2.2.2.2⟩
  have hmem : ∀ t, itP A on (teS k r) k a t → ∃ i : Int, 0 ≤ i ∧ i < Z.2.2.2.2.2 ∧ uu i = t := fun t ht => by
    have h := (l2 t).mpr ht
    rw [w2] at h
    obtain ⟨i, hi, hi2⟩ := List.mem_map.mp h
    have hi := (mem_rgL _ _ _).mp hi
    exact ⟨i, hi.1, by omega, hi2⟩
  have hmin : ((min Z.2.2.2.2.2 27).toNat : Int) = Z.2.2.2.2.2 := by omega
  obtain ⟨r1, r2⟩ := lb_run (bg := bg) (D := teD k r) hu hinj hk hz (min Z.2.2.2.2.2 27).toNat 0 c (Int.le_refl _) (by omega)
  have hfr : ∀ e f : Int, (∀ t, itP A on (teS k r) k a t → ¬ (e = deM t ∧ f = fldP k t)) → gt (lp (lbf Z bg k) (min Z.2.2.2.2.2 27).toNat 0 c) e f = gt c e f := fun e f h => r2 e f (fun j j0 j1 => h _ (hin j j0 (by omega)))
  refine ⟨fun e f hf => ?_, fun t ht => ?_, hfr, fun hb0 i i0 i27 i1 => ?_⟩
  · rw [hfr e f (fun t ht s => hf (by rw [s.2]; exact fld_rg ⟨ht.1, ht.2.1⟩ hk))]
    exact hL e f hf
  · obtain ⟨i, i0, i1, rfl⟩ := hmem t ht
    exact r1 i i0 (by omega)
  · obtain ⟨z1, z2, z3⟩ := hz i i0 i1
    have hi := hin i i0 i1
    obtain ⟨b1, b2, b3⟩ := nd_bus p1 p4 hN ha
    have h1 := b1 _ hi
    have hNa : teN k r a ≤ 100000000 := by
      rcases ha with q | ⟨q, q'⟩
      · rw [q]
        exact hN.2.2.2
      · obtain ⟨-, -, e3, -⟩ := hN.1.1 a q q'
        have h16 := (p1.1 a (th_rg (p4 a q)).1 (th_rg (p4 a q)).2).2.2.2.2.2.2.2.1
        have hru := rupM_bd (v := teN k r a + A (23 * a + 16)) (s := 16) (by omega) (by omega)
        have := (hN.2.1 a q q').1.2
        omega
    rw [z2, z3]
    refine ⟨?_, ?_⟩
    · unfold apV
      split <;> omega
    · rcases hb0 with q | q
      · omega
      · exact absurd hi (q _)
end FF1
