/-! POWER-UP: the class lays all down -/
section FG1
variable {X Y : zM} {c c' c0 cR cm cS A B S D w sp An o O0 : Int → Int} {e f a b k t x v n N d i q bg : Int} {on on' : Int → Bool} {r : zLy} {z Z : zSS} {y : zPw} {m : Nat} {pr : Int → Prop}
/-- places written on some buses -/
def LyW (cm cS A : Int → Int) (on : Int → Bool) (k : Int) (r : zLy) (pr : Int → Prop) (c : Int → Int) : Prop := LyC c cm ∧ (∀ a t, pr a → itP A on (teS k r) k a t → gt c (deM t) (fldP k t) = liP A (teD k r) t) ∧ ∀ e f : Int, (∀ a t, pr a → itP A on (teS k r) k a t → ¬ (e = deM t ∧ f = fldP k t)) → gt c e f = gt cS e f
theorem ly_one (hP : PwI cR A on w n cm) (hk : 0 ≤ k ∧ k < 2) (hB : ∀ e, on e = true → A (23 * e + 1) = 1 → BrC cm A on k e) (hN : NdK A on k r) (hsp : teN k r (-1) ≤ 1024) (hW : LyW cm cS A on k r pr c) (hb : on b = true ∧ A (23 * b + 1) = 1) (hpp : pr (A (23 * b + 2))) (hnb : ¬ pr b) : LyW cm cS A on k r (fun a => pr a ∨ a = b) (labS c w n b k z).1 ∧ LBH (ndS c w n b k z).2 (begf c b k) := by
  obtain ⟨w1, w2, w3⟩ := hW
  obtain ⟨p1, p2, p3, p4, p5, p6, p7, p8, p9, p10, p11⟩ := id hP
  obtain ⟨h20, -⟩ := ly_bus hP hk hB hN w1
  have hbr := th_rg (p4 b hb.1)
  have hdb := de_br hbr.1
  obtain ⟨s1, s2, s3, s4⟩ := lab_step (z := z) hP hk hB hN w1 (Or.inr hb) rfl
  have hbg : ∀ t, itP A on (teS k r) k b t → begf c b k + teD k r t = liP A (teD k r) t ∧ (0 ≤ begf c b k ∧ begf c b k ≤ 1024) := fun t ht => by
    obtain ⟨u1, u2⟩ := ps_bd' p1 p4 p9 hN hsp ht
    obtain ⟨v1, v2, v3, v4⟩ := u2 (by omega)
    have hS0 : teS k r (60 + b) ≠ 0 := by
      have := v1.2.2.2.2
      rw [if_neg hdb.2.2] at this
      exact this.2
    have h18 := w2 _ _ hpp v1
    rw [hdb.1] at h18
    have hf : fldP k (60 + b) = 18 + k := if_neg hdb.2.2
    rw [hf] at h18
    have e1 : begf c b k = gt c b (18 + k) := by
      unfold begf
      rw [if_neg (fun q => by
        rcases q with q | q
        · omega
        · rw [h20 b hb.1 hb.2] at q
          exact hS0 q)]
    obtain ⟨x1, x2⟩ := ps_bd' p1 p4 p9 hN hsp v1
    obtain ⟨y1, -, -⟩ := nd_bus p1 p4 hN (it_bus p9 v1)
    have := (y1 _ v1).1.1
    rw [e1, h18]
    exact ⟨by omega, by omega⟩
  refine ⟨⟨s1, fun a t ha ht => ?_, fun e f h => ?_⟩, s4 ?_⟩
  · by_cases q : a = b
    · subst q
      rw [s2 t ht]
      exact (hbg t ht).1
    · rw [s3 _ _ (fun u hu s => q (by
        have := fld_inj ⟨ht.1, ht.2.1⟩ ⟨hu.1, hu.2.1⟩ s.1 (k := k) (k' := k) (by omega) s.2
        rw [← ht.2.2.2.1, this]
        exact hu.2.2.2.1))]
      exact w2 a t (ha.resolve_right q) ht
  · rw [s3 e f (fun t ht => h b t (Or.inr rfl) ht)]
    exact w3 e f (fun a t ha => h a t (Or.inl ha))
  · by_cases q : ∃ t, itP A on (teS k r) k b t
    · obtain ⟨t, ht⟩ := q
      exact Or.inl (hbg t ht).2
    · exact Or.inr (fun t ht => q ⟨t, ht⟩)
/-- buses done by the walk -/
def prI (A : Int → Int) (on : Int → Bool) (w : Int → Int) (i a : Int) : Prop := a = -1 ∨ ∃ j : Int, 0 ≤ j ∧ j < i ∧ w j = a ∧ on a = true ∧ A (23 * a + 1) = 1
theorem ly_TB (hL : LyC c cm) (h : TB cm) : TB c := fun e => by
  refine ⟨by rw [hL e 6 (by omega)]; exact (h e).1, fun x x0 x1 => ?_⟩
  rw [hL e (12 + x) (by omega)]
  exact (h e).2 x x0 x1
theorem ly_TW (hL : LyC c cm) (hk : 0 ≤ k ∧ k < 2) (h6 : ∀ e, gt cm e 6 ≤ 3) (h : TW cm k) : TW c k := fun e e0 e1 h3 => by
  rw [hL e 3 (by omega)] at h3
  obtain ⟨a1, a2⟩ := h e e0 e1 h3
  have := h6 e
  rw [hL e 6 (by omega), hL e 0 (by omega), hL e (20 + k) (by omega), hL e (22 + k) (by omega)]
  refine ⟨fun x x0 x1 => ?_, a2⟩
  rw [hL e (12 + x) (by omega)]
  exact a1 x x0 x1
theorem pw_TW (hP : PwI cR A on w n cm) (hk : 0 ≤ k ∧ k < 2) : TW cm k := by
  obtain ⟨p1, p2, p3, p4, p5, p6, p7, p8, -⟩ := hP
  exact TW_of p1 p4 p3 (p8 k hk.1 hk.2) p5
theorem pw_6 (hP : PwI cR A on w n cm) : ∀ e, gt cm e 6 ≤ 3 := fun e => by
  by_cases q : 0 ≤ e ∧ e < 20
  · exact (hP.2.2.1.2.2 e q.1 q.2).2
  · rw [gt_out q]
    omega
theorem ly_walk (hP : PwI cR A on w n cm) (hT : TB cm) (hk : 0 ≤ k ∧ k < 2) (hB : ∀ e, on e = true → A (23 * e + 1) = 1 → BrC cm A on k e) (hN : NdK A on k r) (hsp : teN k r (-1) ≤ 1024) : ∀ (m : Nat) (i : Int) (y : (Int → Int) × zSS), 0 ≤ i → i + m = n → LyW cm cS A on k r (prI A on w i) y.1 → LyOK w n k m i y ∧ LyW cm cS A on k r (prI A on w n) (lp (lyi w n k) m i y).1
  | 0, i, y, h0, h1, h => by
    rw [show i = n by omega] at h
    exact ⟨trivial, h⟩
  | m + 1, i, y, h0, h1, h => by
    obtain ⟨p1, p2, p3, p4, p5, p6, p7, p8, p9, p10, p11⟩ := id hP
    have hs := gT_S p1
    have hth := WkF_th p2 h0 (show i < n by omega)
    have ew := WkF_wka p2 h0 (show i < n by omega)
    have hm := ly_MeC h.1 p3 p1.1
    have hcond : (gt y.1 (w i) 0 = 2 ∧ gt y.1 (w i) 3 = 1) ↔ (on (w i) = true ∧ A (23 * w i + 1) = 1) := by
      obtain ⟨q1, q2, -⟩ := hm.2.1 _ hth
      rw [q1, q2]
      constructor
      · rintro ⟨r1, r2⟩
        exact ⟨r2, by omega⟩
      · rintro ⟨r1, r2⟩
        exact ⟨by omega, r1⟩
    have eO : LyOK w n k (m + 1) i y = ((TB y.1 ∧ TW y.1 k ∧ (gt y.1 (wka w n i) 0 = 2 ∧ gt y.1 (wka w n i) 3 = 1 → LBH (ndS y.1 w n (wka w n i) k y.2).2 (begf y.1 (wka w n i) k))) ∧ LyOK w n k m (i + 1) (lyi w n k i y)) := rfl
    have hTB := ly_TB h.1 hT
    have hTW := ly_TW h.1 hk (pw_6 hP) (pw_TW hP hk)
    rw [eO]
    simp only [lp]
    have elyi : lyi w n k i y = if gt y.1 (w i) 0 = 2 ∧ gt y.1 (w i) 3 = 1 then labS y.1 w n (w i) k y.2 else y := by
      unfold lyi
      rw [ew]
    rw [ew]
    by_cases hc : on (w i) = true ∧ A (23 * w i + 1) = 1
    · rw [if_pos (hcond.mpr hc)] at elyi
      have hpp : prI A on w i (A (23 * w i + 2)) := by
        rcases p9.1 _ hc.1 with q | ⟨q, q'⟩
        · exact Or.inl q
        · right
          obtain ⟨j, j0, j1, j2⟩ := (p2.2.2 _).mpr (p4 _ q)
          refine ⟨j, j0, ?_, j2, q, q'⟩
          have hke := ke_par hs hth ⟨p4 _ q, q'⟩
          rw [← j2] at hke
          rcases Int.lt_trichotomy j i with u | u | u
          · exact u
          · rw [u] at hke
            omega
          · have := p2.2.1 i j h0 u j1
            omega
      have hnb : ¬ prI A on w i (w i) := fun q => by
        rcases q with q | ⟨j, j0, j1, j2, -⟩
        · have := hth.1
          omega
        · have := p2.2.1 j i j0 j1 (by omega)
          rw [j2] at this
          omega
      obtain ⟨o1, o2⟩ := ly_one (z := y.2) hP hk hB hN hsp h hc hpp hnb
      have hpr : ∀ a, (prI A on w i a ∨ a = w i) ↔ prI A on w (i + 1) a := fun a => by
        constructor
        · rintro (q | q)
          · rcases q with q | ⟨j, j0, j1, j2⟩
            · exact Or.inl q
            · exact Or.inr ⟨j, j0, by omega, j2⟩
          · exact Or.inr ⟨i, h0, by omega, q.symm, by rw [q]; exact hc.1, by rw [q]; exact hc.2⟩
        · rintro (q | ⟨j, j0, j1, j2, j3, j4⟩)
          · exact Or.inl (Or.inl q)
          · by_cases u : j = i
            · exact Or.inr (by rw [← j2, u])
            · exact Or.inl (Or.inr ⟨j, j0, by omega, j2, j3, j4⟩)
      have o1' : LyW cm cS A on k r (prI A on w (i + 1)) (lyi w n k i y).1 := by
        rw [elyi]
        refine ⟨o1.1, fun a t ha => o1.2.1 a t ((hpr a).mpr ha), fun e f hh => o1.2.2 e f (fun a t ha => hh a t ((hpr a).mp ha))⟩
      obtain ⟨i1, i2⟩ := ly_walk hP hT hk hB hN hsp m (i + 1) (lyi w n k i y) (by omega) (by omega) o1'
      exact ⟨⟨⟨hTB, hTW, fun _ => o2⟩, i1⟩, i2⟩
    · rw [if_neg (fun q => hc (hcond.mp q))] at elyi
      have hpr : ∀ a, prI A on w i a ↔ prI A on w (i + 1) a := fun a => by
        constructor
        · rintro (q | ⟨j, j0, j1, j2⟩)
          · exact Or.inl q
          · exact Or.inr ⟨j, j0, by omega, j2⟩
        · rintro (q | ⟨j, j0, j1, j2, j3, j4⟩)
          · exact Or.inl q
          · by_cases u : j = i
            · exfalso
              rw [u] at j2
              rw [← j2] at j3 j4
              exact hc ⟨j3, j4⟩
            · exact Or.inr ⟨j, j0, by omega, j2, j3, j4⟩
      have o1' : LyW cm cS A on k r (prI A on w (i + 1)) (lyi w n k i y).1 := by
        rw [elyi]
        refine ⟨h.1, fun a t ha => h.2.1 a t ((hpr a).mpr ha), fun e f hh => h.2.2 e f (fun a t ha => hh a t ((hpr a).mp ha))⟩
      obtain ⟨i1, i2⟩ := ly_walk hP hT hk hB hN hsp m (i + 1) (lyi w n k i y) (by omega) (by omega) o1'
      exact ⟨⟨⟨hTB, hTW, fun q => absurd (hcond.mp q) hc⟩, i1⟩, i2⟩
/-- a kind is laid down -/
theorem ly_kind (hP : PwI cR A on w n cm) (hT : TB cm) (hk : 0 ≤ k ∧ k < 2) (hB : ∀ e, on e = true → A (23 * e + 1) = 1 → BrC cm A on k e) (hN : NdK A on k r) (hsp : teN k r (-1) ≤ 1024) (hL : LyC cS cm) : LkOK w n k (cS, z) ∧ LyC (lyk w n k (cS, z)).1 cm ∧ (∀ a t, itP A on (teS k r) k a t → gt (lyk w n k (cS, z)).1 (deM t) (fldP k t) = liP A (teD k r) t) ∧ ∀ e f : Int, (∀ a t, itP A on (teS k r) k a t → ¬ (e = deM t ∧ f = fldP k t)) → gt (lyk w n k (cS, z)).1 e f = gt cS e f := by
  obtain ⟨p1, p2, p3, p4, p5, p6, p7, p8, p9, p10, p11⟩ := id hP
  have hs := gT_S p1
  obtain ⟨s1, s2, s3, s4⟩ := lab_step (z := z) (a := -1) hP hk hB hN hL (Or.inl rfl) rfl
  have e0 : begf cS (-1) k = 0 := if_pos (Or.inl rfl)
  have h0 : LyW cm cS A on k r (prI A on w 0) (labS cS w n (-1) k z).1 := by
    have hpr : ∀ a, prI A on w 0 a → a = -1 := fun a ha => by
      rcases ha with q | ⟨j, j0, j1, -⟩
      · exact q
      · omega
    refine ⟨s1, fun a t ha ht => ?_, fun e f h => s3 e f (fun t ht => h (-1) t (Or.inl rfl) ht)⟩
    have := hpr a ha
    subst this
    rw [s2 t ht, e0, ps_rec hs (p4 _ ht.2.2.1), if_pos ht.2.2.2.1]
    omega
  obtain ⟨i1, i2, i3, i4⟩ := ly_walk hP hT hk hB hN hsp n.toNat 0 (labS cS w n (-1) k z) (Int.le_refl _) (by have := p2.1.1; omega) h0
  have hall : ∀ a t, itP A on (teS k r) k a t → prI A on w n a := fun a t ht => by
    rcases it_bus p9 ht with q | ⟨q, q'⟩
    · exact Or.inl q
    · obtain ⟨j, j0, j1, j2⟩ := (p2.2.2 _).mpr (p4 _ q)
      exact Or.inr ⟨j, j0, j1, j2, q, q'⟩
  refine ⟨⟨ly_TB hL hT, ly_TW hL hk (pw_6 hP) (pw_TW hP hk), ?_, i1⟩, i2, fun a t ht => i3 a t (hall a t ht) ht, fun e f h => i4 e f (fun a t _ => h a t)⟩
  refine s4 (Or.inl ?_)
  rw [e0]
  omega
/-- things of different kinds are kept apart -/
theorem ly_both (hP : PwI cR A on w n cm) (hT : TB cm) (hB : ∀ k : Int, 0 ≤ k → k < 2 → ∀ e, on e = true → A (23 * e + 1) = 1 → BrC cm A on k e) (hN : ∀ k : Int, 0 ≤ k → k < 2 → NdK A on k r) (hsp : ∀ k : Int, 0 ≤ k → k < 2 → teN k r (-1) ≤ 1024) : LkOK w n 0 (cm, z) ∧ LkOK w n 1 (lyk w n 0 (cm, z)) ∧ LyC (lyk w n 1 (lyk w n 0 (cm, z))).1 cm ∧ (∀ k : Int, 0 ≤ k → k < 2 → ∀ a t, itP A on (teS k r) k a t → gt (lyk w n 1 (lyk w n 0 (cm, z))).1 (deM t) (fldP k t) = liP A (teD k r) t) ∧ ∀ e f : Int, (∀ k : Int, 0 ≤ k → k < 2 → ∀ a t, itP A on (teS k r) k a t → ¬ (e = deM t ∧ f = fldP k t)) → gt (lyk w n 1 (lyk w n 0 (cm, z))).1 e f = gt cm e f := by
  obtain ⟨a1, a2, a3, a4⟩ := ly_kind (z := z) (cS := cm) hP hT (k := 0) (by omega) (hB 0 (by omega) (by omega)) (hN 0 (by omega) (by omega)) (hsp 0 (by omega) (by omega)) (fun _ _ _ => rfl)
  obtain ⟨b1, b2, b3, b4⟩ := ly_kind (z := (lyk w n 0 (cm, z)).2) (cS := (lyk w n 0 (cm, z)).1) hP hT (k := 1) (by omega) (hB 1 (by omega) (by omega)) (hN 1 (by omega) (by omega)) (hsp 1 (by omega) (by omega)) a2
  have b1 : LkOK w n 1 (lyk w n 0 (cm, z)) := b1
  have b2 : LyC (lyk w n 1 (lyk w n 0 (cm, z))).1 cm := b2
  have b3 : ∀ a t, itP A on (teS 1 r) 1 a t → gt (lyk w n 1 (lyk w n 0 (cm, z))).1 (deM t) (fldP 1 t) = liP A (teD 1 r) t := b3
  have b4 : ∀ e f : Int, (∀ a t, itP A on (teS 1 r) 1 a t → ¬ (e = deM t ∧ f = fldP 1 t)) → gt (lyk w n 1 (lyk w n 0 (cm, z))).1 e f = gt (lyk w n 0 (cm, z)).1 e f := b4
  refine ⟨a1, b1, b2, fun k k0 k1 a t ht => ?_, fun e f h => ?_⟩
  · rcases (show k = 0 ∨ k = 1 by omega) with rfl | rfl
    · rw [b4 _ _ (fun a' u hu s => ?_)]
      · exact a3 a t ht
      · obtain ⟨s1, s2⟩ := s
        have t4 := ht.2.2.2.2
        have u4 := hu.2.2.2.2
        by_cases q : t < 60
        · by_cases q' : u < 60
          · have hf1 : fldP 0 t = 15 + t % 3 := if_pos q
            have hf2 : fldP 1 u = 15 + u % 3 := if_pos q'
            rw [hf1, hf2] at s2
            rw [if_pos q] at t4
            rw [if_pos q', ← s1, show u % 3 = t % 3 by omega] at u4
            omega
          · have hf1 : fldP 0 t = 15 + t % 3 := if_pos q
            have hf2 : fldP 1 u = 18 + 1 := if_neg q'
            omega
        · have hf1 : fldP 0 t = 18 + 0 := if_neg q
          by_cases q' : u < 60
          · have hf2 : fldP 1 u = 15 + u % 3 := if_pos q'
            omega
          · have hf2 : fldP 1 u = 18 + 1 := if_neg q'
            omega
    · exact b3 a t ht
  · rw [b4 e f (fun a t ht => h 1 (by omega) (by omega) a t ht), a4 e f (fun a t ht => h 0 (by omega) (by omega) a t ht)]
end FG1
