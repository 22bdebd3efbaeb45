/-! POWER-UP: measuring and who is refused -/
section FC1
variable {X Y : zM} {c c' c0 cR A B S w o O0 : Int → Int} {e f a b k t x v n N d i q m : Int} {on on' : Int → Bool} {r : zLy} {z : zSS}
theorem pw_TB (hP : PwI cR A on w n c) (hT0 : TB cR) : TB c := fun e => by
  obtain ⟨-, -, -, -, -, p6, -⟩ := hP
  refine ⟨by rw [p6 e 6 (by omega) (by omega) (by omega) (by omega)]; exact (hT0 e).1, fun x x0 x1 => ?_⟩
  rw [p6 e (12 + x) (by omega) (by omega) (by omega) (by omega)]
  exact (hT0 e).2 x x0 x1
theorem msf_off {y : (Int → Int) × zSS} (hk : 0 ≤ k ∧ k < 2) (h : gt y.1 e 3 ≠ 1) : ∀ f : Int, gt (msf w n k i y).1 e f = gt y.1 e f := fun f => by
  unfold msf
  split
  · rename_i hc
    have hne : e ≠ wka w n i := fun q => h (by rw [q]; exact hc.2)
    have hr : 0 ≤ wka w n i ∧ wka w n i < 20 := by
      have := hc.2
      unfold gt at this
      split at this
      · omega
      · omega
    dsimp only
    rw [ups_stc hr (by omega), ups_stc hr (by omega), gt_stc, gt_stc, if_neg (fun q => hne q.1), if_neg (fun q => hne q.1)]
  · rfl
theorem pw_meas (hP : PwI cR A on w n c) (hT0 : TB cR) (h50 : ∀ e, 0 ≤ gt cR e 5 + 1 ∧ gt cR e 5 ≤ 1048576) (hk : 0 ≤ k ∧ k < 2) : MsOK w n k n.toNat (c, z) ∧ TB (msd w n k n.toNat (c, z)).1 ∧ PwI cR A on w n (msd w n k n.toNat (c, z)).1 ∧ (∀ e, on e = true → A (23 * e + 1) = 1 → BrC (msd w n k n.toNat (c, z)).1 A on k e) ∧ ∀ k' : Int, k' ≠ k → 0 ≤ k' → k' < 2 → ∀ e, BrC c A on k' e → BrC (msd w n k n.toNat (c, z)).1 A on k' e := by
  have hTB := pw_TB hP hT0
  obtain ⟨p1, p2, p3, p4, p5, p6, p7, p8, p9, p10, p11⟩ := id hP
  obtain ⟨r1, r2, r3, r4⟩ := ms_run (k := k) p1 p2 p4 hk p3 hTB (fun e => by rw [p6 e 5 (by omega) (by omega) (by omega) (by omega)]; exact h50 e) p5 n.toNat (c, z) (by have := p2.1.1; omega) (fun _ _ _ _ => rfl) (p8 k hk.1 hk.2) (fun j j0 j1 => by have := p2.1.1; omega)
  have hoff : ∀ (m : Nat) (y : (Int → Int) × zSS) (e : Int), gt y.1 e 3 ≠ 1 → ∀ f : Int, gt (msd w n k m y).1 e f = gt y.1 e f := by
    intro m
    induction m with
    | zero => exact fun _ _ _ _ => rfl
    | succ m ih =>
      intro y e h f
      have h1 := msf_off (w := w) (n := n) (k := k) (i := (m : Nat)) hk h
      show gt (msd w n k m (msf w n k (m : Nat) y)).1 e f = _
      rw [ih _ e (by rw [h1]; exact h) f, h1]
  have hoff' := hoff n.toNat (c, z)
  generalize msd w n k n.toNat (c, z) = y at *
  have r2 : MsK y.1 c k := r2
  have hb2 : ∀ k' : Int, k' ≠ k → 0 ≤ k' → k' < 2 → ∀ e, gt y.1 e (20 + k') = gt c e (20 + k') ∧ gt y.1 e (22 + k') = gt c e (22 + k') := fun k' hne k0 k1 e => ⟨r2 e _ (by omega) (by omega), r2 e _ (by omega) (by omega)⟩
  refine ⟨r1, TB_keep hk r2 hTB, ⟨p1, p2, MeC_keep hk p3 r2, p4, fun e e0 e1 h3 => p5 e e0 e1 (by rw [← r2 e 3 (by omega) (by omega)]; exact h3), fun e f f0 f1 f2 f3 => by rw [r2 e f (by omega) (by omega)]; exact p6 e f f0 f1 f2 f3, fun e he ho k' k0 k1 => ?_, fun k' k0 k1 => ?_, p9, fun e he hb => ?_, p11⟩, r4, fun k' hne k0 k1 e hB => ?_⟩
  · have h3 : gt c e 3 ≠ 1 := fun q => by
      have := (p3.2.1 e he).2.1.mp q
      rw [ho] at this
      exact absurd this (by decide)
    rw [hoff' e h3]
    exact p7 e he ho k' k0 k1
  · by_cases q : k' = k
    · rw [q]
      exact r3
    · intro e he
      obtain ⟨b1, b2⟩ := hb2 k' q k0 k1 e
      rw [b1, b2, r2 e 0 (by omega) (by omega)]
      exact p8 k' k0 k1 e he
  · rw [r2 e 7 (by omega) (by omega), r2 e 8 (by omega) (by omega)]
    exact p10 e he hb
  · obtain ⟨b1, b2⟩ := hb2 k' hne k0 k1 e
    have hsz : szC y.1 k' = szC c k' := funext fun t => by
      unfold szC
      split
      · exact r2 _ _ (by omega) (by omega)
      · exact (hb2 k' hne k0 k1 _).1
    have hal : alC y.1 k' = alC c k' := funext fun t => by
      unfold alC
      split
      · exact r2 _ _ (by omega) (by omega)
      · exact (hb2 k' hne k0 k1 _).2
    unfold BrC at hB ⊢
    rw [b1, b2, hsz, hal]
    exact hB
/-- needs as the class measures them are the reference's -/
theorem pw_need (hP : PwI cR A on w n c) (hk : 0 ≤ k ∧ k < 2) (hB : ∀ e, on e = true → A (23 * e + 1) = 1 → BrC c A on k e) (hN : NdK A on k r) : (∀ z, (ndS c w n (-1) k z).1 = teN k r (-1)) ∧ ∀ z a, (a = -1 ∨ (on a = true ∧ A (23 * a + 1) = 1)) → ∃ l, BusL A on k (szC c k) (alC c k) a l ∧ lyD (szC c k) (alC c k) (teD k r) l 0 ∧ (ndS c w n a k z).1 = lyE (szC c k) (alC c k) l 0 ∧ (ndS c w n a k z).1 = teN k r a ∧ shL (ndS c w n a k z).2 = l.map (fun t => (deM t, apV t, alC c k t, szC c k t, teD k r t)) ∧ (0 ≤ (ndS c w n a k z).2.2.2.2.2.2 ∧ (ndS c w n a k z).2.2.2.2.2.2 ≤ 24) := by
  obtain ⟨p1, p2, p3, p4, p5, p6, p7, p8, p9, p10, p11⟩ := id hP
  have hz : ∃ z0 : zSS, True := ⟨((fun _ => 0), (fun _ => 0), (fun _ => 0), (fun _ => 0), (fun _ => 0), 0), trivial⟩
  obtain ⟨z0, -⟩ := hz
  obtain ⟨D, d1, d2⟩ := nds_cls (z := z0) p1 p2 p4 p3 (p8 k hk.1 hk.2) hB
  obtain ⟨u1, u2, u3, u4⟩ := NdS_uniq (gT_S p1) p4 d1 hN.1
  have hDa : ∀ a, (a = -1 ∨ (on a = true ∧ A (23 * a + 1) = 1)) → (ndS c w n a k z0).1 = teN k r a ∧ ∀ t, itP A on (szC c k) k a t → D t = teD k r t := fun a ha => by
    rcases ha with q | ⟨q, q'⟩
    · subst q
      exact ⟨u2, u4⟩
    · obtain ⟨-, -, v1, -, v2⟩ := u1 a q q'
      exact ⟨v1, v2⟩
  refine ⟨fun z => ?_, fun z a ha => ?_⟩
  · obtain ⟨q1, -, -⟩ := d2 (-1) z
    rw [q1]
    exact (hDa (-1) (Or.inl rfl)).1
  · obtain ⟨q1, -, l, l1, l2, l3, l4, l5⟩ := d2 a z
    obtain ⟨v1, v2⟩ := hDa a ha
    refine ⟨l, l1, lyD_set l 0 l2 (fun t ht => v2 t ((l1.2 t).mp ht)), l3, by rw [q1, v1], ?_, l5⟩
    rw [l4]
    refine List.map_congr_left (fun t ht => ?_)
    rw [v2 t ((l1.2 t).mp ht)]
/-- units of an endpoint -/
theorem un_me (hm : MeC c A on) (he : thM A e) : unt c e k = unM A e k := by
  obtain ⟨q1, q2, q3, q4, q5⟩ := hm.2.1 e he
  unfold unt unM
  rw [q3]
  refine lp_congr _ 0 0 (fun j j0 j1 s => ?_)
  obtain ⟨e1, e2⟩ := q5 j j0 (by omega)
  unfold usf usM
  rw [e1, e2]
theorem un_pos (g : gT A) (he : thM A e) {b : Int} (b0 : 0 ≤ b) (b1 : b < A (23 * e + 5)) (hq : A (23 * e + (6 + b)) = k) : 0 < unM A e k := by
  have hr := th_rg he
  have h5 := MG_many g.1 hr
  have hpos : ∀ t ∈ apsR A e k, 1 ≤ wdT A t k := fun t ht => by
    obtain ⟨b', b0', b1', b2', rfl⟩ := (mem_apsR g.1 hr).mp ht
    obtain ⟨d1, d2, d3, d4⟩ := de_ap hr.1 hr.2 b0' (show b' < 3 by omega)
    unfold wdT
    rw [if_pos d4, (sz_own (A := A) hr (show 0 ≤ b' ∧ b' < 3 by omega)).1]
    obtain ⟨m, m1, m2⟩ := g.2.2.2.2.2.2.2.1 e b' he b0' b1'
    rw [m2]
    exact (pow_le8 m m1).1
  have hs := un_sm (k := k) g.1 hr
  have hin : 3 * e + b ∈ apsR A e k := (mem_apsR g.1 hr).mpr ⟨b, b0, b1, hq, rfl⟩
  rw [← hs]
  refine (smL_pos _ (fun x hx => by have := hpos x hx; omega)).mpr ⟨_, hin, by have := hpos _ hin; omega⟩
/-- the same is refused -/
theorem who_eq (g : gT A) (hF : WkF A w n) (hFo : WkF A o N) (hm : MeC c A on) (hon : ∀ e, on e = true → thM A e) : whoS c w n k = trM A o N on k ∧ ((lp (trF A o on k) N.toNat 0 (-1, 0)).1 = -1 ∨ on (lp (trF A o on k) N.toNat 0 (-1, 0)).1 = true) := by
  obtain ⟨eN, ew⟩ := WkF_uniq hF hFo
  subst eN
  have h01 : ∀ e, thM A e → A (23 * e + 1) = 0 ∨ A (23 * e + 1) = 1 := fun e he => by
    have := (g.1 e (th_rg he).1 (th_rg he).2).1
    omega
  have key1 : ∀ (m : Nat) (i : Int) (y : Int × Int), 0 ≤ i → i + m = n → 0 ≤ y.2 → (y.1 = -1 ∨ on y.1 = true) → lp (muf c w n k 1) m i y = lp (trF A o on k) m i y ∧ ((lp (trF A o on k) m i y).1 = -1 ∨ on (lp (trF A o on k) m i y).1 = true) := by
    intro m
    induction m with
    | zero => exact fun i y _ _ _ h => ⟨rfl, h⟩
    | succ m ih =>
      intro i y h0 h1 hy hy2
      simp only [lp]
      have ht := WkF_th hF h0 (show i < n by omega)
      have ewi := ew i h0 (by omega)
      obtain ⟨q1, q2, q3, q4, q5⟩ := hm.2.1 _ ht
      have hb := h01 _ ht
      have hnn := un_nn (k := k) g.1 (th_rg ht)
      have e1 : muf c w n k 1 i y = trF A o on k i y ∧ 0 ≤ (trF A o on k i y).2 ∧ ((trF A o on k i y).1 = -1 ∨ on (trF A o on k i y).1 = true) := by
        unfold muf trF
        rw [WkF_wka hF h0 (by omega), ← ewi, un_me hm ht]
        by_cases c1 : on (w i) = true ∧ A (23 * w i + 1) = 0 ∧ y.2 < unM A (w i) k
        · rw [if_pos c1, if_pos ⟨by omega, Or.inl (q2.mpr c1.1), c1.2.2⟩]
          exact ⟨rfl, hnn, Or.inr c1.1⟩
        · rw [if_neg c1, if_neg (fun s => c1 ⟨q2.mp (s.2.1.resolve_right (by omega)), by omega, s.2.2⟩)]
          exact ⟨rfl, hy, hy2⟩
      rw [e1.1]
      exact ih (i + 1) _ (by omega) (by omega) e1.2.1 e1.2.2
  obtain ⟨k1, k2⟩ := key1 n.toNat 0 (-1, 0) (Int.le_refl _) (by have := hFo.1.1; omega) (Int.le_refl _) (Or.inl rfl)
  have key2 : ∀ (m : Nat) (i : Int) (y : Int × Int), 0 ≤ i → i + m = n → ((y.1 = -1 ∧ y.2 = -1) ∨ (0 ≤ y.1 ∧ y.2 = A (23 * y.1 + 16))) → (lp (mlf c w n) m i y).1 = lp (trG A o on) m i y.1 := by
    intro m
    induction m with
    | zero => exact fun i y _ _ _ => rfl
    | succ m ih =>
      intro i y h0 h1 hy
      simp only [lp]
      have ht := WkF_th hF h0 (show i < n by omega)
      have hr := th_rg ht
      have ewi := ew i h0 (by omega)
      obtain ⟨q1, q2, q3, q4, q5⟩ := hm.2.1 _ ht
      have h16 := (g.1 _ hr.1 hr.2).2.2.2.2.2.2.2.1
      have e1 : (mlf c w n i y).1 = trG A o on i y.1 ∧ (((mlf c w n i y).1 = -1 ∧ (mlf c w n i y).2 = -1) ∨ (0 ≤ (mlf c w n i y).1 ∧ (mlf c w n i y).2 = A (23 * (mlf c w n i y).1 + 16))) := by
        unfold mlf trG
        rw [WkF_wka hF h0 (by omega), ← ewi, q4]
        by_cases c1 : on (w i) = true ∧ A (23 * w i + 1) = 1 ∧ y.2 < A (23 * w i + 16)
        · rw [if_pos ⟨by omega, q2.mpr c1.1, c1.2.2⟩, if_pos ⟨c1.1, c1.2.1, fun s => by omega⟩]
          exact ⟨rfl, Or.inr ⟨hr.1, rfl⟩⟩
        · rw [if_neg (fun s => c1 ⟨q2.mp s.2.1, by omega, s.2.2⟩), if_neg (fun s => c1 ⟨s.1, s.2.1, by
            rcases hy with v | v
            · omega
            · have := s.2.2
              omega⟩)]
          exact ⟨rfl, hy⟩
      rw [← e1.1]
      exact ih (i + 1) _ (by omega) (by omega) e1.2
  have k3 := key2 n.toNat 0 (-1, -1) (Int.le_refl _) (by have := hFo.1.1; omega) (Or.inl ⟨rfl, rfl⟩)
  refine ⟨?_, k2⟩
  unfold whoS trM
  rw [k1]
  by_cases q : (lp (trF A o on k) n.toNat 0 (-1, 0)).1 = -1
  · rw [if_pos q, if_neg (by omega), q]
    exact k3
  · have := (hon _ (k2.resolve_left q)).1
    rw [if_neg q, if_pos this]
/-- if there is a need, someone that is ON is refused -/
theorem tr_on (g : gT A) (hFo : WkF A o N) (hon : ∀ e, on e = true → thM A e) (hk2 : (lp (trF A o on k) N.toNat 0 (-1, 0)).1 = -1 ∨ on (lp (trF A o on k) N.toNat 0 (-1, 0)).1 = true) (hx : ∃ t, itP A on S k (-1) t) : on (trM A o N on k) = true := by
  obtain ⟨t, t0, t1, to, ta, ti⟩ := hx
  have ht := hon _ to
  obtain ⟨j, j0, j1, j2⟩ := (hFo.2.2 _).mpr ht
  unfold trM
  rcases hk2 with q | q
  · -- no endpoint has units
    have key1 : ∀ (m : Nat) (i : Int) (y : Int × Int), 0 ≤ i → i + m = N → (0 ≤ y.2 ∧ (0 < y.2 → 0 ≤ y.1)) → (0 ≤ (lp (trF A o on k) m i y).2 ∧ (0 < (lp (trF A o on k) m i y).2 → 0 ≤ (lp (trF A o on k) m i y).1)) ∧ y.2 ≤ (lp (trF A o on k) m i y).2 ∧ ∀ j : Int, i ≤ j → j < i + m → on (o j) = true → A (23 * o j + 1) = 0 → unM A (o j) k ≤ (lp (trF A o on k) m i y).2 := by
      intro m
      induction m with
      | zero => exact fun i y _ _ h => ⟨h, Int.le_refl _, fun j _ _ => by omega⟩
      | succ m ih =>
        intro i y h0 h1 hy
        simp only [lp]
        have hth := WkF_th hFo h0 (show i < N by omega)
        have e1 : (0 ≤ (trF A o on k i y).2 ∧ (0 < (trF A o on k i y).2 → 0 ≤ (trF A o on k i y).1)) ∧ y.2 ≤ (trF A o on k i y).2 ∧ (on (o i) = true → A (23 * o i + 1) = 0 → unM A (o i) k ≤ (trF A o on k i y).2) := by
          unfold trF
          by_cases c1 : on (o i) = true ∧ A (23 * o i + 1) = 0 ∧ y.2 < unM A (o i) k
          · rw [if_pos c1]
            dsimp only
            exact ⟨⟨by omega, fun _ => hth.1⟩, by omega, fun _ _ => Int.le_refl _⟩
          · rw [if_neg c1]
            refine ⟨hy, Int.le_refl _, fun a1 a2 => ?_⟩
            have : ¬ y.2 < unM A (o i) k := fun s => c1 ⟨a1, a2, s⟩
            omega
        obtain ⟨i1, i2, i3⟩ := ih (i + 1) (trF A o on k i y) (by omega) (by omega) e1.1
        refine ⟨i1, by omega, fun j j0 j1 a1 a2 => ?_⟩
        by_cases r : j = i
        · rw [r] at a1 a2 ⊢
          have := e1.2.2 a1 a2
          omega
        · exact i3 j (by omega) (by omega) a1 a2
    obtain ⟨u1, u2, u3⟩ := key1 N.toNat 0 (-1, 0) (Int.le_refl _) (by have := hFo.1.1; omega) ⟨Int.le_refl _, fun h => by dsimp only at h; omega⟩
    rw [if_neg (by omega), q]
    have h6 : ¬ t < 60 := fun h6 => by
      rw [if_pos h6] at ti
      have hd : deM t = t / 3 := if_pos h6
      have hb : A (23 * deM t + 1) = 0 := by
        have h1 := (g.1 _ (th_rg ht).1 (th_rg ht).2).1
        refine Decidable.byContradiction fun r => ?_
        have := g.2.2.2.2.2.2.1 _ ⟨ht, (show A (23 * deM t + 1) = 1 by omega)⟩
        omega
      have h2 := un_pos (k := k) g ht (b := t % 3) (by omega) ti.1 ti.2
      have h3 := u3 j (by omega) (by have := hFo.1.1; omega) (by rw [j2]; exact to) (by rw [j2]; exact hb)
      rw [j2] at h3
      have := u1.2 (by omega)
      omega
    rw [if_neg h6] at ti
    have key2 : ∀ (m : Nat) (i s : Int), 0 ≤ i → i + m = N → (s = -1 ∨ on s = true) → ((lp (trG A o on) m i s = -1 ∧ s = -1 ∧ ∀ j : Int, i ≤ j → j < i + m → ¬ (on (o j) = true ∧ A (23 * o j + 1) = 1)) ∨ on (lp (trG A o on) m i s) = true) := by
      intro m
      induction m with
      | zero => exact fun i s _ _ h => h.imp (fun r => ⟨r, r, fun j _ _ => by omega⟩) id
      | succ m ih =>
        intro i s h0 h1 hs
        simp only [lp]
        by_cases c1 : on (o i) = true ∧ A (23 * o i + 1) = 1 ∧ ¬ (0 ≤ s ∧ A (23 * o i + 16) ≤ A (23 * s + 16))
        · have e1 : trG A o on i s = o i := if_pos c1
          rw [e1]
          rcases ih (i + 1) (o i) (by omega) (by omega) (Or.inr c1.1) with ⟨-, r, -⟩ | r
          · have := (hon _ c1.1).1
            omega
          · exact Or.inr r
        · have e1 : trG A o on i s = s := if_neg c1
          rw [e1]
          rcases ih (i + 1) s (by omega) (by omega) hs with ⟨r1, r2, r3⟩ | r
          · refine Or.inl ⟨r1, r2, fun j j0 j1 hj => ?_⟩
            by_cases u : j = i
            · rw [u] at hj
              exact c1 ⟨hj.1, hj.2, fun v => by omega⟩
            · exact r3 j (by omega) (by omega) hj
          · exact Or.inr r
    rcases key2 N.toNat 0 (-1) (Int.le_refl _) (by have := hFo.1.1; omega) (Or.inl rfl) with ⟨-, -, r3⟩ | r
    · exact absurd ⟨by rw [j2]; exact to, by rw [j2]; exact ti.1⟩ (r3 j j0 (by have := hFo.1.1; omega))
    · exact r
  · rw [if_pos (hon _ q).1]
    exact q
end FC1
