/-! NEEDS: one bus of the reference -/
section EC
variable {A B S P D S' P' D' c c' c0 w N G N' G' τ : Int → Int} {on : Int → Bool} {e f a b k t x y v d i bu dv o : Int} {l l' : List Int}
theorem ins_ex {K : Int → Int} {x : Int} : ∀ l : List Int, List.Pairwise (fun a b => K a < K b) l → (∀ y ∈ l, K y ≠ K x) → ∃ l', List.Pairwise (fun a b => K a < K b) l' ∧ ∀ t, t ∈ l' ↔ t = x ∨ t ∈ l
  | [], _, _ => ⟨[x], List.pairwise_singleton .., fun t => by simp⟩
  | y :: l, h, hne => by
    obtain ⟨h1, h2⟩ := List.pairwise_cons.mp h
    by_cases q : K x < K y
    · refine ⟨x :: y :: l, List.pairwise_cons.mpr ⟨fun z hz => ?_, h⟩, fun t => List.mem_cons⟩
      rcases List.mem_cons.mp hz with r | r
      · rw [r]
        exact q
      · have := h1 z r
        omega
    · have hy := hne y List.mem_cons_self
      obtain ⟨l', p1, p2⟩ := ins_ex (x := x) l h2 (fun z hz => hne z (List.mem_cons_of_mem _ hz))
      refine ⟨y :: l', List.pairwise_cons.mpr ⟨fun z hz => ?_, p1⟩, fun t => ?_⟩
      · rcases (p2 z).mp hz with r | r
        · rw [r]
          omega
        · exact h1 z r
      · rw [List.mem_cons, p2, List.mem_cons]
        constructor
        · rintro (r | r | r)
          · exact Or.inr (Or.inl r)
          · exact Or.inl r
          · exact Or.inr (Or.inr r)
        · rintro (r | r | r)
          · exact Or.inr (Or.inl r)
          · exact Or.inl r
          · exact Or.inr (Or.inr r)
theorem sort_ex {K : Int → Int} : ∀ L : List Int, L.Nodup → (∀ x ∈ L, ∀ y ∈ L, K x = K y → x = y) → ∃ l, List.Pairwise (fun a b => K a < K b) l ∧ ∀ t, t ∈ l ↔ t ∈ L
  | [], _, _ => ⟨[], List.Pairwise.nil, fun t => Iff.rfl⟩
  | x :: L, hn, hK => by
    obtain ⟨n1, n2⟩ := List.pairwise_cons.mp hn
    obtain ⟨l, p1, p2⟩ := sort_ex L n2 (fun a ha b hb => hK a (List.mem_cons_of_mem _ ha) b (List.mem_cons_of_mem _ hb))
    obtain ⟨l', q1, q2⟩ := ins_ex (x := x) l p1 (fun y hy q => by
      have hyL := (p2 y).mp hy
      have := hK y (List.mem_cons_of_mem _ hyL) x List.mem_cons_self q
      exact n1 y hyL this.symm)
    exact ⟨l', q1, fun t => by rw [q2, p2, List.mem_cons]⟩
/-- on one bus the rank tells things apart -/
theorem it_ra (g : gT A) (hon : ∀ e, on e = true → thM A e) (ht : itP A on S k a t) (ho : itP A on S k a o) (h : raM A t = raM A o) : t = o := by
  obtain ⟨t0, t1, t2, t3, t4⟩ := ht
  obtain ⟨o0, o1, o2, o3, o4⟩ := ho
  have hth := hon _ t2
  have hoh := hon _ o2
  have r1 := ra_rg (gT_S g) hth t0
  have r2 := ra_rg (gT_S g) hoh o0
  have hde : deM t = deM o := g.2.2.2.2.2.1 _ _ hth hoh (by rw [t3, o3]) (by omega)
  unfold raM at h
  by_cases q1 : t < 60
  · by_cases q2 : o < 60
    · rw [if_pos q1, if_pos q2, hde] at h
      have d1 : deM t = t / 3 := if_pos q1
      have d2 : deM o = o / 3 := if_pos q2
      omega
    · rw [if_pos q1] at t4
      rw [if_neg q2] at o4
      have := g.2.2.2.2.2.2.1 _ ⟨hoh, o4.1⟩
      rw [hde] at t4
      omega
  · by_cases q2 : o < 60
    · rw [if_neg q1] at t4
      rw [if_pos q2] at o4
      have := g.2.2.2.2.2.2.1 _ ⟨hth, t4.1⟩
      rw [← hde] at o4
      omega
    · have d1 : deM t = t - 60 := if_neg q1
      have d2 : deM o = o - 60 := if_neg q2
      omega
theorem it_ky (g : gT A) (hon : ∀ e, on e = true → thM A e) (ht : itP A on S k a t) (ho : itP A on S k a o) (hb : (0 ≤ S t ∧ S t ≤ 8000000) ∧ (0 ≤ S o ∧ S o ≤ 8000000)) (h : kyN A S P t = kyN A S P o) : t = o := by
  have hs := gT_S g
  have r1 := ra_rg hs (hon _ ht.2.2.1) ht.1
  have r2 := ra_rg hs (hon _ ho.2.2.1) ho.1
  have s1 := sl_rg hs (hon _ ht.2.2.1)
  have s2 := sl_rg hs (hon _ ho.2.2.1)
  unfold kyN at h
  exact it_ra g hon ht ho (by omega)
/-- what is gathered -/
theorem ga_sp (g : gT A) (hon : ∀ e, on e = true → thM A e) (ha : a = -1 ∨ (0 ≤ a ∧ a < 20)) {r : zLy} : (∀ t, (∃ i : Int, 0 ≤ i ∧ i < (gaR A on k (bfM a) r).2.2.2 ∧ (gaR A on k (bfM a) r).2.2.1 i = t) ↔ itP A on (fun t => r.2.2.2.1 (80 * k + t)) k a t) ∧ (∀ i j : Int, 0 ≤ i → i < (gaR A on k (bfM a) r).2.2.2 → 0 ≤ j → j < (gaR A on k (bfM a) r).2.2.2 → (gaR A on k (bfM a) r).2.2.1 i = (gaR A on k (bfM a) r).2.2.1 j → i = j) ∧ (0 ≤ (gaR A on k (bfM a) r).2.2.2 ∧ (gaR A on k (bfM a) r).2.2.2 ≤ 24) ∧ GaC A k (fun t => on (deM t) = true ∧ A (23 * deM t + 2) = a ∧ t % 3 < A (23 * deM t + 5) ∧ A (23 * deM t + (6 + t % 3)) = k) (r.2.2.2.1, r.2.2.2.2.1, r.2.2.2.2.2.1, 0) (gaR A on k (bfM a) r) := by
  have hM := g.1
  obtain ⟨h1, h2, h3⟩ := ga_dv (on := on) (k := k) (bu := bfM a) hM 20 0 (r.2.2.2.1, r.2.2.2.2.1, r.2.2.2.2.2.1, 0) (Int.le_refl _) (by omega) (Int.le_refl _)
  have eR : gaR A on k (bfM a) r = lp (gaD A on k (bfM a)) 20 0 (r.2.2.2.1, r.2.2.2.2.1, r.2.2.2.2.2.1, 0) := rfl
  rw [← eR] at h1 h2 h3
  have e0 : lsO (r.2.2.2.1, r.2.2.2.2.1, r.2.2.2.2.2.1, (0 : Int)).2.2.1 (r.2.2.2.1, r.2.2.2.2.1, r.2.2.2.2.2.1, (0 : Int)).2.2.2 = [] := rfl
  rw [e0, List.nil_append] at h1
  dsimp only at h1
  have hmg : ∀ e : Int, 0 ≤ e → e < 20 → ∀ t, t ∈ gdL A on r.2.2.2.1 k (bfM a) e ↔ itP A on (fun t => r.2.2.2.1 (80 * k + t)) k a t ∧ deM t = e := fun e e0 e1 t => by
    rw [← mem_cnL g hon ⟨e0, e1⟩]
    unfold gdL cnL
    by_cases q : on e = true ∧ A (23 * e + 2) = a
    · rw [if_pos q, if_pos ⟨q.1, (bu_iff hM ⟨e0, e1⟩ ha).mpr q.2⟩]
      by_cases u : A (23 * e + 1) = 1
      · have h50 := g.2.2.2.2.2.2.1 e ⟨hon e q.1, u⟩
        have hnil : apsR A e k = [] := by
          unfold apsR
          rw [h50]
          rfl
        rw [hnil, List.nil_append, if_pos u]
        by_cases v : r.2.2.2.1 (80 * k + (60 + e)) ≠ 0
        · rw [if_pos ⟨u, v⟩, if_pos v]
        · rw [if_neg (fun s => v s.2), if_neg v]
      · rw [if_neg (fun s => u s.1), if_neg u, List.append_nil]
    · rw [if_neg q, if_neg (fun s => q ⟨s.1, (bu_iff hM ⟨e0, e1⟩ ha).mp s.2⟩)]
  have hmem : ∀ t, t ∈ lsO (gaR A on k (bfM a) r).2.2.1 (gaR A on k (bfM a) r).2.2.2 ↔ itP A on (fun t => r.2.2.2.1 (80 * k + t)) k a t := fun t => by
    rw [h1, List.mem_flatMap]
    constructor
    · rintro ⟨e, he, ht⟩
      have he := (mem_rgL _ _ _).mp he
      exact ((hmg e he.1 (by omega) t).mp ht).1
    · intro ht
      have hr := th_rg (hon _ ht.2.2.1)
      exact ⟨deM t, (mem_rgL _ _ _).mpr ⟨hr.1, by omega⟩, (hmg _ hr.1 hr.2 t).mpr ⟨ht, rfl⟩⟩
  have hnd : (lsO (gaR A on k (bfM a) r).2.2.1 (gaR A on k (bfM a) r).2.2.2).Nodup := by
    rw [h1]
    refine pw_flat _ (fun e he => ?_) ?_
    · have he := (mem_rgL _ _ _).mp he
      unfold gdL
      split
      · refine List.pairwise_append.mpr ⟨nodup_apsR hM ⟨he.1, by omega⟩, ?_, fun u hu v hv huv => ?_⟩
        · split
          · exact List.pairwise_singleton ..
          · exact List.Pairwise.nil
        · obtain ⟨b, b0, b1, b2, rfl⟩ := (mem_apsR hM ⟨he.1, by omega⟩).mp hu
          have h5 := MG_many hM (dv := e) ⟨he.1, by omega⟩
          split at hv
          · have := List.mem_singleton.mp hv
            omega
          · exact absurd hv List.not_mem_nil
      · exact List.Pairwise.nil
    · refine List.Pairwise.imp_of_mem ?_ (pw_rgL 20 0)
      intro e f he hf hef u hu v hv huv
      have he := (mem_rgL _ _ _).mp he
      have hf := (mem_rgL _ _ _).mp hf
      have d1 := ((hmg e he.1 (by omega) u).mp hu).2
      have d2 := ((hmg f hf.1 (by omega) v).mp hv).2
      rw [huv, d2] at d1
      omega
  have hcount : ∀ l : List Int, smL (fun _ => (1 : Int)) l = l.length := fun l => by
    induction l with
    | nil => rfl
    | cons x l ih =>
      simp only [smL, List.length_cons, ih]
      omega
  have hlen := bus_sumM (h := fun _ => (1 : Int)) (m := 3) g hon hnd hmem (by omega) (fun e he => by
    rw [hcount]
    have hr := th_rg he
    have := aps_len3 (k := k) g hr
    unfold cnL
    split
    · split
      · split
        · simp
        · simp
      · omega
    · simp)
  rw [hcount] at hlen
  have hln : (lsO (gaR A on k (bfM a) r).2.2.1 (gaR A on k (bfM a) r).2.2.2).length = (gaR A on k (bfM a) r).2.2.2.toNat := by
    unfold lsO
    rw [List.length_map, rgL_len]
  rw [hln] at hlen
  refine ⟨fun t => by rw [← hmem, mem_lsO], fun i j i0 i1 j0 j1 h => ?_, ⟨h2, by omega⟩, ?_⟩
  · have hp : List.Pairwise (fun x y => x ≠ y) ((rgL 0 (gaR A on k (bfM a) r).2.2.2.toNat).map (gaR A on k (bfM a) r).2.2.1) := hnd
    rcases Int.lt_trichotomy i j with q | q | q
    · exact absurd h (pw_idx _ _ hp i j i0 q (by omega))
    · exact q
    · exact absurd h.symm (pw_idx _ _ hp j i j0 q (by omega))
  · obtain ⟨c1, c2⟩ := h3
    refine ⟨fun t t0 t1 ht => c1 t t0 t1 ?_, fun j hj => c2 j (fun t t0 t1 ht => hj t t0 t1 ?_)⟩
    · have hr := th_rg (hon _ ht.1)
      exact ⟨by omega, ht.1, (bu_iff hM hr ha).mpr ht.2.1, ht.2.2⟩
    · have hr := th_rg (hon _ ht.2.1)
      exact ⟨ht.2.1, (bu_iff hM hr ha).mp ht.2.2.1, ht.2.2.2⟩
end EC
