/-! NEEDS: one bus of the reference is laid: its row -/
section ED
variable {A B S P D S' P' D' c c' c0 w N G N' G' τ : Int → Int} {on : Int → Bool} {e f a b k t x y v d i bu dv o nn gg m : Int} {l l' : List Int} {r r' : zLy}
/-- the tables of the reference -/
abbrev teS (k : Int) (r : zLy) : Int → Int := fun t => r.2.2.2.1 (80 * k + t)
abbrev teP (k : Int) (r : zLy) : Int → Int := fun t => r.2.2.2.2.1 (80 * k + t)
abbrev teD (k : Int) (r : zLy) : Int → Int := fun t => r.2.2.1 (80 * k + t)
abbrev teN (k : Int) (r : zLy) : Int → Int := fun e => r.1 (21 * k + bfM e)
abbrev teG (k : Int) (r : zLy) : Int → Int := fun e => r.2.1 (21 * k + bfM e)
theorem itP_br (h : ∀ t : Int, 60 ≤ t → t < 80 → S t = S' t) : itP A on S k a t ↔ itP A on S' k a t := by
  unfold itP
  by_cases q : t < 60
  · rw [if_pos q, if_pos q]
  · rw [if_neg q, if_neg q]
    constructor
    · rintro ⟨h0, h1, h2, h3, h4, h5⟩
      exact ⟨h0, h1, h2, h3, h4, by rw [← h t (by omega) h1]; exact h5⟩
    · rintro ⟨h0, h1, h2, h3, h4, h5⟩
      exact ⟨h0, h1, h2, h3, h4, by rw [h t (by omega) h1]; exact h5⟩
theorem BuSp_congr (h : BuSp A on k S P D a nn gg) (hag : ∀ t, itP A on S k a t ∨ itP A on S' k a t → S t = S' t ∧ P t = P' t) (hD : ∀ t, itP A on S k a t → D t = D' t) : BuSp A on k S' P' D' a nn gg := by
  obtain ⟨l, h1, h2, h3, h4⟩ := h
  have hm : ∀ t ∈ l, S t = S' t ∧ P t = P' t := fun t ht => hag t (Or.inl ((h1.2 t).mp ht))
  refine ⟨l, BusL_congr h1 hag, lyD_congr l 0 (fun t ht => ⟨(hm t ht).1, (hm t ht).2, hD t ((h1.2 t).mp ht)⟩) h2, ?_, ?_⟩
  · rw [h3]
    exact lyE_congr l 0 hm
  · rw [h4]
    exact lyG_congr l (fun t ht => (hm t ht).2)
theorem ApSp_congr (h : ApSp A on k S P a) (hag : ∀ t, itP A on S k a t ∨ itP A on S' k a t → S t = S' t ∧ P t = P' t) : ApSp A on k S' P' a := fun t ht h6 => by
  have hi : itP A on S k a t := by
    obtain ⟨q1, q2, q3, q4, q5⟩ := ht
    refine ⟨q1, q2, q3, q4, ?_⟩
    rw [if_pos h6] at q5 ⊢
    exact q5
  have := hag t (Or.inr ht)
  rw [← this.1, ← this.2]
  exact h t hi h6
theorem it_self (hs : gS A) (hon : ∀ e, on e = true → thM A e) (ha : 0 ≤ a) (ht : itP A on S k a t) : t ≠ 60 + a := fun q => by
  have h := it_lev hs hon ht ha
  rw [q, (de_br ha).1] at h
  omega
/-- bounds of a bus laid -/
theorem bl_sum (g : gT A) (hon : ∀ e, on e = true → thM A e) (hap : ApSp A on k S P a) (hl : BusL A on k S P a l) (hm0 : 0 ≤ m) (hbr : ∀ t, itP A on S k a t → ¬ t < 60 → (0 ≤ S t ∧ S t ≤ m) ∧ ∃ q : Nat, q ≤ 8 ∧ P t = 2 ^ q) : (0 ≤ lyE S P l 0 ∧ lyE S P l 0 ≤ 8 * (1536 + m)) ∧ (∀ t ∈ l, (1 ≤ P t ∧ P t ≤ 256) ∧ 0 ≤ S t) ∧ (lyG P l = 0 ∨ ∃ q : Nat, q ≤ 8 ∧ lyG P l = 2 ^ q) := by
  have hA : ∀ t, itP A on S k a t → t < 60 → S t = szT A t ∧ P t = szT A t ∧ ∃ q : Nat, q ≤ 8 ∧ szT A t = 2 ^ q := fun t ht h6 => by
    obtain ⟨h1, h2⟩ := hap t ht h6
    obtain ⟨t0, t1, to, ta, ti⟩ := ht
    rw [if_pos h6] at ti
    have hd : deM t = t / 3 := if_pos h6
    have hz := g.2.2.2.2.2.2.2.1 (deM t) (t % 3) (hon _ to) (by omega) ti.1
    refine ⟨h1, h2, ?_⟩
    unfold szT
    rw [hd] at hz
    exact hz
  have hb : ∀ t, itP A on S k a t → (∃ q : Nat, q ≤ 8 ∧ P t = 2 ^ q) ∧ 0 ≤ S t := fun t ht => by
    by_cases h6 : t < 60
    · obtain ⟨h1, h2, q, q1, q2⟩ := hA t ht h6
      have hp := pow_le8 q q1
      exact ⟨⟨q, q1, by omega⟩, by omega⟩
    · obtain ⟨h1, h2⟩ := hbr t ht h6
      exact ⟨h2, h1.1⟩
  have hb2 : ∀ t ∈ l, (1 ≤ P t ∧ P t ≤ 256) ∧ 0 ≤ S t := fun t ht => by
    obtain ⟨⟨q, q1, q2⟩, h0⟩ := hb t ((hl.2 t).mp ht)
    have hp := pow_le8 q q1
    omega
  have hle := lyE_le (S := S) (P := P) l 0 (Int.le_refl _) (fun t ht => ⟨(hb2 t ht).1.1, (hb2 t ht).2⟩)
  have hs := bus_sum (h := fun t => S t + P t) g hon (List.Pairwise.imp (fun hxy q => by rw [q] at hxy; omega) hl.1) hl.2 hm0 (fun t ht h6 => by
    obtain ⟨h1, h2, q, q1, q2⟩ := hA t ht h6
    have hp := pow_le8 q q1
    show S t + P t ≤ 512
    omega) (fun t ht h6 => by
    obtain ⟨u1, q, q1, q2⟩ := hbr t ht h6
    have hp := pow_le8 q q1
    show S t + P t ≤ 256 + m
    omega)
  refine ⟨⟨hle.1, by omega⟩, hb2, ?_⟩
  rcases lyG_mem (P := P) l (fun t ht => by have := hb2 t ht; omega) with q | ⟨t, ht, q⟩
  · exact Or.inl q
  · right
    rw [q]
    exact (hb t ((hl.2 t).mp ht)).1
/-- what laying a bus leaves -/
def LbF (A : Int → Int) (on : Int → Bool) (k a : Int) (r r' : zLy) : Prop := (∀ j : Int, (∀ t, itP A on (teS k r) k a t → t < 60 → j ≠ 80 * k + t) → (0 ≤ a → j ≠ 80 * k + (60 + a)) → r'.2.2.2.1 j = r.2.2.2.1 j ∧ r'.2.2.2.2.1 j = r.2.2.2.2.1 j) ∧ (∀ j : Int, (∀ t, itP A on (teS k r) k a t → j ≠ 80 * k + t) → r'.2.2.1 j = r.2.2.1 j) ∧ ∀ j : Int, j ≠ 21 * k + bfM a → r'.1 j = r.1 j ∧ r'.2.1 j = r.2.1 j
theorem lb_sp (g : gT A) (hon : ∀ e, on e = true → thM A e) (ha : a = -1 ∨ (0 ≤ a ∧ a < 20)) (hm : 0 ≤ m ∧ m ≤ 8000000) (hbr : ∀ t, itP A on (teS k r) k a t → ¬ t < 60 → (0 ≤ teS k r t ∧ teS k r t ≤ m) ∧ ∃ q : Nat, q ≤ 8 ∧ teP k r t = 2 ^ q) : LbP A on k (bfM a) r ∧ ApSp A on k (teS k (lbR A on k (bfM a) r)) (teP k (lbR A on k (bfM a) r)) a ∧ BuSp A on k (teS k (lbR A on k (bfM a) r)) (teP k (lbR A on k (bfM a) r)) (teD k (lbR A on k (bfM a) r)) a (teN k (lbR A on k (bfM a) r) a) (teG k (lbR A on k (bfM a) r) a) ∧ (0 ≤ a → teS k (lbR A on k (bfM a) r) (60 + a) = rupM (teN k (lbR A on k (bfM a) r) a + A (23 * a + 16)) 16 ∧ teP k (lbR A on k (bfM a) r) (60 + a) = max 16 (teG k (lbR A on k (bfM a) r) a)) ∧ (0 ≤ teN k (lbR A on k (bfM a) r) a ∧ teN k (lbR A on k (bfM a) r) a ≤ 8 * (1536 + m)) ∧ (teG k (lbR A on k (bfM a) r) a = 0 ∨ ∃ q : Nat, q ≤ 8 ∧ teG k (lbR A on k (bfM a) r) a = 2 ^ q) ∧ (∀ t, itP A on (teS k r) k a t → 0 ≤ teD k (lbR A on k (bfM a) r) t ∧ teD k (lbR A on k (bfM a) r) t ≤ 8 * (1536 + m)) ∧ LbF A on k a r (lbR A on k (bfM a) r) := by
  have hs := gT_S g
  have hM := g.1
  obtain ⟨g1, g2, g3, g4, g5⟩ := ga_sp (k := k) (r := r) g hon ha
  have eG : lbG A on k (bfM a) r = lgS A (gaR A on k (bfM a) r).1 (gaR A on k (bfM a) r).2.1 k (gaR A on k (bfM a) r).2.2.2.toNat (r.2.2.1, (gaR A on k (bfM a) r).2.2.1, 0, 0) := rfl
  have eP : LbP A on k (bfM a) r = ((0 ≤ (gaR A on k (bfM a) r).2.2.2 ∧ (gaR A on k (bfM a) r).2.2.2 ≤ 32) ∧ LbK (gaR A on k (bfM a) r).1 (gaR A on k (bfM a) r).2.1 (gaR A on k (bfM a) r).2.2.1 k (gaR A on k (bfM a) r).2.2.2) := rfl
  have eR : lbR A on k (bfM a) r = if bfM a = 20 then (ups r.1 (21 * k + bfM a) (lbG A on k (bfM a) r).2.2.1, ups r.2.1 (21 * k + bfM a) (lbG A on k (bfM a) r).2.2.2, (lbG A on k (bfM a) r).1, (gaR A on k (bfM a) r).1, (gaR A on k (bfM a) r).2.1, (lbG A on k (bfM a) r).2.1, (gaR A on k (bfM a) r).2.2.2)
  else (ups r.1 (21 * k + bfM a) (lbG A on k (bfM a) r).2.2.1, ups r.2.1 (21 * k + bfM a) (lbG A on k (bfM a) r).2.2.2, (lbG A on k (bfM a) r).1, ups (gaR A on k (bfM a) r).1 (80 * k + (60 + bfM a)) (rupM ((lbG A on k (bfM a) r).2.2.1 + A (23 * bfM a + 16)) 16), ups (gaR A on k (bfM a) r).2.1 (80 * k + (60 + bfM a)) (if 16 < (lbG A on k (bfM a) r).2.2.2 then (lbG A on k (bfM a) r).2.2.2 else 16), (lbG A on k (bfM a) r).2.1, (gaR A on k (bfM a) r).2.2.2) := rfl
  generalize gaR A on k (bfM a) r = Y at *
  have hSb : ∀ j : Int, (∀ t : Int, itP A on (teS k r) k a t → t < 60 → j ≠ 80 * k + t) → Y.1 j = r.2.2.2.1 j ∧ Y.2.1 j = r.2.2.2.2.1 j := fun j hj => g5 j (fun t t0 t1 ht => hj t ⟨t0, by omega, ht.1, ht.2.1, by rw [if_pos t1]; exact ht.2.2⟩ t1)
  have hS60 : ∀ t : Int, 60 ≤ t → t < 80 → teS k r t = Y.1 (80 * k + t) ∧ teP k r t = Y.2.1 (80 * k + t) := fun t t0 t1 => by
    have := g5 (80 * k + t) (fun u u0 u1 _ => by omega)
    exact ⟨this.1.symm, this.2.symm⟩
  have hit : ∀ t, itP A on (teS k r) k a t ↔ itP A on (fun t => Y.1 (80 * k + t)) k a t := fun t => itP_br (fun t t0 t1 => (hS60 t t0 t1).1)
  have hap : ApSp A on k (fun t => Y.1 (80 * k + t)) (fun t => Y.2.1 (80 * k + t)) a := fun t ht h6 => by
    obtain ⟨t0, t1, t2, t3, t4⟩ := ht
    rw [if_pos h6] at t4
    exact g4 t t0 h6 ⟨t2, t3, t4⟩
  have hbr' : ∀ t, itP A on (fun t => Y.1 (80 * k + t)) k a t → ¬ t < 60 → (0 ≤ Y.1 (80 * k + t) ∧ Y.1 (80 * k + t) ≤ m) ∧ ∃ q : Nat, q ≤ 8 ∧ Y.2.1 (80 * k + t) = 2 ^ q := fun t ht h6 => by
    have h60 := hS60 t (by omega) ht.2.1
    rw [← h60.1, ← h60.2]
    exact hbr t ((hit t).mpr ht) h6
  have hSt : ∀ t, itP A on (fun t => Y.1 (80 * k + t)) k a t → (0 ≤ Y.1 (80 * k + t) ∧ Y.1 (80 * k + t) ≤ 8000000) ∧ (1 ≤ Y.2.1 (80 * k + t) ∧ Y.2.1 (80 * k + t) ≤ 256) := fun t ht => by
    by_cases h6 : t < 60
    · obtain ⟨h1, h2⟩ := hap t ht h6
      dsimp only at h1 h2
      obtain ⟨t0, t1, to, ta, ti⟩ := ht
      rw [if_pos h6] at ti
      have hd : deM t = t / 3 := if_pos h6
      obtain ⟨q, q1, q2⟩ := g.2.2.2.2.2.2.2.1 (deM t) (t % 3) (hon _ to) (by omega) ti.1
      have hp := pow_le8 q q1
      unfold szT at h1 h2
      rw [hd] at q2
      omega
    · obtain ⟨h1, q, q1, q2⟩ := hbr' t ht h6
      have hp := pow_le8 q q1
      omega
  have hmemL : ∀ t, t ∈ lsO Y.2.2.1 Y.2.2.2 ↔ itP A on (fun t => Y.1 (80 * k + t)) k a t := fun t => by
    rw [mem_lsO, g1, ← hit]
  have hnd : (lsO Y.2.2.1 Y.2.2.2).Nodup := pw_of_idx (R := fun x y => x ≠ y) (fun i j i0 ij j1 h => by
    have := g2 i j i0 (by omega) (by omega) (by omega) h
    omega)
  obtain ⟨l, p1, p2⟩ := sort_ex (K := kyN A (fun t => Y.1 (80 * k + t)) (fun t => Y.2.1 (80 * k + t))) (lsO Y.2.2.1 Y.2.2.2) hnd (fun x hx y hy h => it_ky g hon ((hmemL x).mp hx) ((hmemL y).mp hy) ⟨(hSt x ((hmemL x).mp hx)).1, (hSt y ((hmemL y).mp hy)).1⟩ h)
  have hBL : BusL A on k (fun t => Y.1 (80 * k + t)) (fun t => Y.2.1 (80 * k + t)) a l := ⟨p1, fun t => by rw [p2, hmemL]⟩
  have hnat : ((Y.2.2.2.toNat : Nat) : Int) = Y.2.2.2 := by omega
  obtain ⟨q1, q2, q3, q4⟩ := lg_sp (S := Y.1) (P := Y.2.1) (k := k) hM Y.2.2.2.toNat (r.2.2.1, Y.2.2.1, 0, 0) l p1 (fun t => by rw [p2, mem_lsO, hnat]) (fun i j i0 i1 j0 j1 h => g2 i j i0 (by omega) j0 (by omega) h) (fun t ht => by
    have h := (hBL.2 t).mp ht
    exact ⟨⟨h.1, h.2.1⟩, (hSt t h).1⟩)
  rw [← eG] at q1 q2 q3 q4
  have q3' := q3 (Int.le_refl _)
  dsimp only at q1 q2 q3' q4
  obtain ⟨s1, s2, s3⟩ := bl_sum (m := m) g hon hap hBL hm.1 hbr'
  have hg0 := (lyG_ge (P := fun t => Y.2.1 (80 * k + t)) l).2.1
  have q3'' : (lbG A on k (bfM a) r).2.2.2 = lyG (fun t => Y.2.1 (80 * k + t)) l := by
    rw [q3']
    exact Int.max_eq_right hg0
  have hDb := lyD_le (S := fun t => Y.1 (80 * k + t)) (P := fun t => Y.2.1 (80 * k + t)) l 0 (Int.le_refl _) (fun t ht => ⟨(s2 t ht).1.1, (s2 t ht).2⟩) q2
  have hP : LbP A on k (bfM a) r := by
    rw [eP]
    refine ⟨⟨g3.1, by omega⟩, fun i i0 i1 => ?_⟩
    have h := (hit _).mp ((g1 (Y.2.2.1 i)).mp ⟨i, i0, i1, rfl⟩)
    have h2 := hSt _ h
    exact ⟨⟨h.1, h.2.1⟩, h2.1, h2.2.1, by omega⟩
  -- the row of after
  have hR : ∃ Nn Gg, Nn = (lbG A on k (bfM a) r).2.2.1 ∧ Gg = (lbG A on k (bfM a) r).2.2.2 ∧ (lbR A on k (bfM a) r).1 = ups r.1 (21 * k + bfM a) Nn ∧ (lbR A on k (bfM a) r).2.1 = ups r.2.1 (21 * k + bfM a) Gg ∧ (lbR A on k (bfM a) r).2.2.1 = (lbG A on k (bfM a) r).1 ∧ (∀ j : Int, (0 ≤ a → j ≠ 80 * k + (60 + a)) → (lbR A on k (bfM a) r).2.2.2.1 j = Y.1 j ∧ (lbR A on k (bfM a) r).2.2.2.2.1 j = Y.2.1 j) ∧ (0 ≤ a → (lbR A on k (bfM a) r).2.2.2.1 (80 * k + (60 + a)) = rupM (Nn + A (23 * a + 16)) 16 ∧ (lbR A on k (bfM a) r).2.2.2.2.1 (80 * k + (60 + a)) = max 16 Gg) := by
    refine ⟨_, _, rfl, rfl, ?_⟩
    rw [eR]
    rcases ha with q | q
    · have eb : bfM a = 20 := if_pos q
      rw [if_pos eb]
      exact ⟨rfl, rfl, rfl, fun j _ => ⟨rfl, rfl⟩, fun q0 => by omega⟩
    · have eb : bfM a = a := if_neg (by omega)
      rw [eb, if_neg (by omega)]
      refine ⟨rfl, rfl, rfl, fun j hj => ⟨ups_ne _ _ (hj q.1), ups_ne _ _ (hj q.1)⟩, fun _ => ⟨ups_at .., ?_⟩⟩
      dsimp only
      rw [ups_at]
      split <;> omega
  obtain ⟨Nn, Gg, n1, n2, r1, r2, r3, r4, r5⟩ := hR
  generalize lbR A on k (bfM a) r = R at *
  have hNa : teN k R a = Nn := by
    show R.1 (21 * k + bfM a) = Nn
    rw [r1, ups_at]
  have hGa : teG k R a = Gg := by
    show R.2.1 (21 * k + bfM a) = Gg
    rw [r2, ups_at]
  have hag : ∀ t, itP A on (fun t => Y.1 (80 * k + t)) k a t ∨ itP A on (teS k R) k a t → Y.1 (80 * k + t) = teS k R t ∧ Y.2.1 (80 * k + t) = teP k R t := fun t ht => by
    have hne : 0 ≤ a → 80 * k + t ≠ 80 * k + (60 + a) := fun h0 => by
      have : t ≠ 60 + a := by
        rcases ht with h | h
        · exact it_self hs hon h0 h
        · exact it_self hs hon h0 h
      omega
    have := r4 (80 * k + t) hne
    exact ⟨this.1.symm, this.2.symm⟩
  have hBu : BuSp A on k (fun t => Y.1 (80 * k + t)) (fun t => Y.2.1 (80 * k + t)) (teD k R) a (teN k R a) (teG k R a) := by
    refine ⟨l, hBL, ?_, ?_, ?_⟩
    · show lyD _ _ (fun t => R.2.2.1 (80 * k + t)) l 0
      rw [r3]
      exact q2
    · rw [hNa, n1, q1]
    · rw [hGa, n2, q3'']
  refine ⟨hP, ApSp_congr hap hag, BuSp_congr hBu hag (fun _ _ => rfl), fun h0 => ?_, ?_, ?_, fun t ht => ?_, fun j hj hj2 => ?_, fun j hj => ?_, fun j hj => ?_⟩
  · rw [hNa, hGa]
    exact r5 h0
  · rw [hNa, n1, q1]
    exact s1
  · rw [hGa, n2, q3'']
    exact s3
  · have htl := (hBL.2 t).mpr ((hit t).mp ht)
    have := hDb t htl
    have h0 := (s2 t htl).2
    show 0 ≤ R.2.2.1 (80 * k + t) ∧ R.2.2.1 (80 * k + t) ≤ _
    rw [r3]
    omega
  · rw [(r4 j hj2).1, (r4 j hj2).2]
    exact hSb j hj
  · rw [r3]
    exact q4 j (fun t ht => hj t ((hit t).mpr ((hBL.2 t).mp ht)))
  · rw [r1, r2, ups_ne _ _ hj, ups_ne _ _ hj]
    exact ⟨rfl, rfl⟩
end ED
