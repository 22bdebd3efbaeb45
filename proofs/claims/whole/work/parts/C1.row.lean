/-! ONE ROW TRIED: the class -/
section CB
variable {im X Y : zM} {c c' c0 s sp A B w w' T : Int → Int} {e f a b x y d k m n u un st bg en bu v sz ad dv nt i : Int} {z z0 M L : zSS} {p q r : Int → Bool}
/-- the class's cells while it lays down: only BASEs of kinds that are done may differ -/
def KcR (A c c0 : Int → Int) (kd : Int) : Prop := (∀ e f : Int, f < 15 ∨ 17 < f → gt c e f = gt c0 e f) ∧ ∀ t : Int, 0 ≤ t → t < 60 → onM A (deM t) → kd ≤ A (23 * deM t + (6 + t % 3)) → gt c (deM t) (15 + t % 3) = gt c0 (deM t) (15 + t % 3)
theorem KcR_refl : KcR A c c k := ⟨fun _ _ _ => rfl, fun _ _ _ _ _ => rfl⟩
theorem KcR_mono {kd kd' : Int} (h : KcR A c c0 kd) (hk : kd ≤ kd') : KcR A c c0 kd' := ⟨h.1, fun t t0 t1 ho h2 => h.2 t t0 t1 ho (by omega)⟩
theorem Kc_HsB {kd : Int} (h : KcR A c c0 kd) (h6 : HsB c0) : HsB c := fun e e0 e1 => by
  rw [h.1 e 6 (by omega)]
  exact h6 e e0 e1
theorem hs3 (h6 : HsB c) (e : Int) : gt c e 6 ≤ 3 := by
  by_cases q : 0 ≤ e ∧ e < 20
  · exact (h6 e q.1 q.2).2
  · rw [gt_out q]
    omega
theorem Kc_aps {kd : Int} (h : KcR A c c0 kd) (h6 : HsB c0) : apsL c e k = apsL c0 e k := by
  unfold apsL
  rw [h.1 e 6 (by omega)]
  refine flatMap_congr' _ (fun x hx => ?_)
  have hx := (mem_rgL _ _ _).mp hx
  have := hs3 h6 e
  rw [h.1 e (9 + x) (by omega)]
theorem Kc_thL {kd : Int} (h : KcR A c c0 kd) (h6 : HsB c0) (hk : 0 ≤ k ∧ k < 2) : thL c w m a k = thL c0 w m a k := by
  unfold thL
  refine flatMap_congr' _ (fun e _ => ?_)
  unfold thC
  rw [h.1 e 1 (by omega), h.1 e 3 (by omega), h.1 e 0 (by omega), h.1 e (20 + k) (by omega), Kc_aps h h6]
theorem Kc_rec {kd t : Int} (h : KcR A c c0 kd) (hk : 0 ≤ k ∧ k < 2) (t0 : 0 ≤ t) (ht : t < 60 → onM A (deM t) ∧ kd ≤ A (23 * deM t + (6 + t % 3))) : recC c k t = recC c0 k t := by
  unfold recC alC szC bsC
  by_cases q : t < 60
  · rw [if_pos q, if_pos q, if_pos q, if_pos q, if_pos q, if_pos q, h.1 _ (12 + t % 3) (by omega), h.2 t t0 q (ht q).1 (ht q).2]
  · rw [if_neg q, if_neg q, if_neg q, if_neg q, if_neg q, if_neg q, h.1 _ (22 + k) (by omega), h.1 _ (20 + k) (by omega), h.1 _ (18 + k) (by omega)]
/-- what holds while something is laid down on a bus -/
def RC (A c0 w : Int → Int) (n a dv : Int) (sp : Int → Int) : Prop := gGd A ∧ SimC c0 A ∧ Cls c0 ∧ WkF A w n ∧ (a = -1 ∨ onBr A a) ∧ (epM A dv ∧ ¬ onM A dv) ∧ ∀ k : Int, 0 ≤ k → k < 2 → sp k = A (460 + k)
theorem th_kd (hR : RC A c0 w n a dv sp) (hk : 0 ≤ k ∧ k < 2) {t : Int} (ht : t ∈ thL c0 w n a k) : 0 ≤ t ∧ t < 80 ∧ (t < 60 → onM A (deM t) ∧ k ≤ A (23 * deM t + (6 + t % 3))) := by
  obtain ⟨g, hc, hC, hF, ha, hd, hsp⟩ := hR
  obtain ⟨t0, t1, ⟨ti, tj⟩, tb⟩ := (thL_now hc g hF (Cls_HsB hC) hk).mp ht
  refine ⟨t0, t1, fun q => ⟨ti, ?_⟩⟩
  rw [if_pos q] at tj
  omega
/-- the bus as gathered on the way -/
theorem gat_kc (hR : RC A c0 w n a dv sp) (h : KcR A c c0 k) (hk : 0 ≤ k ∧ k < 2) : shL (gatS c w n a k z) = (thL c0 w n a k).map (recC c0 k) ∧ (gatS c w n a k z).2.2.2.2.2 = (thL c0 w n a k).length ∧ (gatS c w n a k z).2.2.2.2.2 ≤ 24 := by
  obtain ⟨g, hc, hC, hF, ha, hd, hsp⟩ := id hR
  have hl := thL_len (a := a) (k := k) (SimW_of hc) (gT_S g.1) hF (Cls_HsB hC)
  have e1 : thL c w n a k = thL c0 w n a k := Kc_thL h (Cls_HsB hC) hk
  obtain ⟨h1, h2⟩ := sh_gat (z := z) (a := a) (k := k) (c := c) (w := w) (n := n) (fun i i0 i1 => th_rg (WkF_th hF i0 i1)) hF.1.2 (fun e e0 e1 => ((Kc_HsB h (Cls_HsB hC)) e e0 e1).2) (by rw [e1]; omega)
  rw [e1] at h1 h2
  refine ⟨?_, h2, by omega⟩
  rw [h1]
  refine List.map_congr_left (fun t ht => ?_)
  obtain ⟨t0, t1, t2⟩ := th_kd hR hk ht
  exact Kc_rec h hk t0 t2
theorem ap_neg {t : Int} (h0 : 0 ≤ t) : apV t = -1 ↔ ¬ t < 60 := by
  unfold apV
  by_cases q : t < 60
  · rw [if_pos q]
    exact ⟨fun r => by omega, fun r => absurd q r⟩
  · rw [if_neg q]
    exact ⟨fun _ => q, fun _ => rfl⟩
/-- what may move, what may not -/
def mvL (c0 w : Int → Int) (n a k : Int) : List Int := (thL c0 w n a k).filter (fun t => decide (t < 60))
def fxL (c0 w : Int → Int) (n a k : Int) : List Int := (thL c0 w n a k).filter (fun t => decide (¬ t < 60))
theorem filt_map (hR : RC A c0 w n a dv sp) (hk : 0 ≤ k ∧ k < 2) : ((thL c0 w n a k).map (recC c0 k)).filter (fun p => decide (p.2.1 ≠ -1)) = (mvL c0 w n a k).map (recC c0 k) ∧ ((thL c0 w n a k).map (recC c0 k)).filter (fun p => decide (p.2.1 = -1)) = (fxL c0 w n a k).map (recC c0 k) := by
  unfold mvL fxL
  rw [List.filter_map, List.filter_map]
  refine ⟨congrArg _ (List.filter_congr (fun t ht => ?_)), congrArg _ (List.filter_congr (fun t ht => ?_))⟩
  · obtain ⟨t0, -, -⟩ := th_kd hR hk ht
    have e : (recC c0 k t).2.1 = apV t := rfl
    simp only [Function.comp, e]
    refine decide_eq_decide.mpr ?_
    rw [ne_eq, ap_neg t0]
    exact ⟨fun q => Decidable.not_not.mp q, fun q r => r q⟩
  · obtain ⟨t0, -, -⟩ := th_kd hR hk ht
    have e : (recC c0 k t).2.1 = apV t := rfl
    simp only [Function.comp, e]
    exact decide_eq_decide.mpr (ap_neg t0)
theorem pw_of_idx {R : Int → Int → Prop} {τ : Int → Int} {m : Nat} (h : ∀ a b : Int, 0 ≤ a → a < b → b < m → R (τ a) (τ b)) : List.Pairwise R ((rgL 0 m).map τ) := by
  rw [List.pairwise_map]
  refine List.Pairwise.imp_of_mem ?_ (pw_rgL m 0)
  intro i j hi hj hij
  have := (mem_rgL _ _ _).mp hi
  have := (mem_rgL _ _ _).mp hj
  exact h i j (by omega) hij (by omega)
theorem ra_nn (hM : MG A) {t : Int} (h : 0 ≤ t ∧ t < 80) : 0 ≤ raM A t := by
  have hd := de_rg h
  have hsl := (hM _ hd.1 hd.2).2.2.1
  unfold raM
  split <;> omega
/-- what one row lays down and what stays -/
def unL (c0 : Int → Int) (dv k len : Int) (τM ch : Int → Int) : List Int := apsL c0 dv k ++ (rgL 0 len.toNat).map (fun j => τM (ch j))
def stL (c0 w : Int → Int) (n a k nm len : Int) (τM ch : Int → Int) : List Int := fxL c0 w n a k ++ ((rgL 0 nm.toNat).filter (fun j => !Cho ch len j)).map τM
/-- a row of places that may be chosen -/
def ChR (ch : Int → Int) (len nm : Int) : Prop := (0 ≤ len ∧ len ≤ 3) ∧ (∀ j : Int, 0 ≤ j → j < len → 0 ≤ ch j ∧ ch j < nm) ∧ ∀ a b : Int, 0 ≤ a → a < b → b < len → ch a < ch b
theorem mem_mvL (hR : RC A c0 w n a dv sp) (hk : 0 ≤ k ∧ k < 2) {t : Int} : t ∈ mvL c0 w n a k ↔ ThN A a k t ∧ t < 60 := by
  obtain ⟨g, hc, hC, hF, ha, hd, hsp⟩ := id hR
  unfold mvL
  rw [List.mem_filter, thL_now hc g hF (Cls_HsB hC) hk, decide_eq_true_eq]
  exact Iff.rfl
theorem pw_mvL (hR : RC A c0 w n a dv sp) : List.Pairwise (fun x y => raM A x < raM A y) (mvL c0 w n a k) := by
  obtain ⟨g, hc, hC, hF, ha, hd, hsp⟩ := id hR
  exact List.Pairwise.filter _ (pw_thL (SimW_of hc) (gT_S g.1) hF (Cls_HsB hC))
theorem own_rg (hR : RC A c0 w n a dv sp) {t : Int} : t ∈ apsL c0 dv k ↔ ∃ b : Int, 0 ≤ b ∧ b < A (23 * dv + 5) ∧ A (23 * dv + (6 + b)) = k ∧ t = 3 * dv + b := by
  obtain ⟨g, hc, hC, hF, ha, hd, hsp⟩ := id hR
  have hr := th_rg hd.1.1
  have h6 : gt c0 dv 6 = A (23 * dv + 5) := (sc_d hc hd.1.1).2.2.2.2.1
  rw [mem_apsL (Cls_HsB hC dv hr.1 hr.2).1, h6]
  constructor
  · rintro ⟨b, b0, b1, b2, b3⟩
    exact ⟨b, b0, b1, by rw [← ((sc_d hc hd.1.1).2.2.2.2.2.2.2.1 b b0 b1).1]; exact b2, b3⟩
  · rintro ⟨b, b0, b1, b2, b3⟩
    exact ⟨b, b0, b1, by rw [((sc_d hc hd.1.1).2.2.2.2.2.2.2.1 b b0 b1).1]; exact b2, b3⟩
/-- sizes of what is laid down -/
theorem un_rec (hR : RC A c0 w n a dv sp) (hk : 0 ≤ k ∧ k < 2) {t : Int} (h : t ∈ apsL c0 dv k ∨ t ∈ mvL c0 w n a k) : (0 ≤ t ∧ t < 60) ∧ (recC c0 k t).2.2.1 = szT A t ∧ (recC c0 k t).2.2.2.1 = szT A t ∧ ∃ m : Nat, m ≤ 8 ∧ szT A t = 2 ^ m := by
  obtain ⟨g, hc, hC, hF, ha, hd, hsp⟩ := id hR
  have key : ∀ e b : Int, thM A e → 0 ≤ b → b < A (23 * e + 5) → (recC c0 k (3 * e + b)).2.2.1 = szT A (3 * e + b) ∧ (recC c0 k (3 * e + b)).2.2.2.1 = szT A (3 * e + b) ∧ ∃ m : Nat, m ≤ 8 ∧ szT A (3 * e + b) = 2 ^ m := fun e b he b0 b1 => by
    have hr := th_rg he
    have h5 := MG_many g.1.1 hr
    have hd := (sc_d hc he).2.2.2.2.2.2.2.1 b b0 b1
    obtain ⟨s1, -⟩ := sz_own (A := A) hr (show 0 ≤ b ∧ b < 3 by omega)
    rw [recC_ap hr.1 hr.2 b0 (by omega), s1]
    exact ⟨hd.2.1, hd.2.1, g.1.2.2.2.2.2.2.2.1 e b he b0 b1⟩
  rcases h with h | h
  · obtain ⟨b, b0, b1, b2, rfl⟩ := (own_rg hR).mp h
    have hr := th_rg hd.1.1
    have h5 := MG_many g.1.1 hr
    exact ⟨by omega, key dv b hd.1.1 b0 b1⟩
  · obtain ⟨⟨t0, t1, ⟨to, ti⟩, tb⟩, t6⟩ := (mem_mvL hR hk).mp h
    rw [if_pos t6] at ti
    have hdt : deM t = t / 3 := if_pos t6
    have := key (deM t) (t % 3) to.1 (by omega) ti.1
    rw [show 3 * deM t + t % 3 = t by omega] at this
    exact ⟨⟨t0, t6⟩, this⟩
theorem un_recP (hR : RC A c0 w n a dv sp) (hk : 0 ≤ k ∧ k < 2) (hK : KcR A c c0 k) {t : Int} (h : t ∈ apsL c0 dv k ∨ t ∈ mvL c0 w n a k) : (0 ≤ t ∧ t < 60) ∧ (recC c k t).2.2.1 = szT A t ∧ (recC c k t).2.2.2.1 = szT A t ∧ ∃ m : Nat, m ≤ 8 ∧ szT A t = 2 ^ m := by
  obtain ⟨h1, h2, h3, h4⟩ := un_rec hR hk h
  have e : (recC c k t).2.2.1 = (recC c0 k t).2.2.1 ∧ (recC c k t).2.2.2.1 = (recC c0 k t).2.2.2.1 := by
    unfold recC alC szC
    dsimp only
    rw [if_pos h1.2, if_pos h1.2, if_pos h1.2, if_pos h1.2, hK.1 _ (12 + t % 3) (by omega)]
    exact ⟨rfl, rfl⟩
  exact ⟨h1, by rw [e.1, h2], by rw [e.2, h3], h4⟩
theorem own_len (hR : RC A c0 w n a dv sp) : (apsL c0 dv k).length ≤ 3 := by
  obtain ⟨g, hc, hC, hF, ha, hd, hsp⟩ := id hR
  have hr := th_rg hd.1.1
  exact apsL_len (Cls_HsB hC dv hr.1 hr.2)
theorem th_bd (g : gGd A) (hk : 0 ≤ k ∧ k < 2) {t : Int} (ht : ThN A a k t) : 1 ≤ wdT A t k ∧ 0 ≤ bgT A t k ∧ bgT A t k + wdT A t k ≤ 1024 := by
  obtain ⟨t0, t1, ti, tb⟩ := ht
  have hin := (g.2.2.2.2.2.1 t k t0 t1 hk.1 hk.2 ti).2.2.2
  refine ⟨?_, hin⟩
  obtain ⟨ho, hi⟩ := ti
  unfold wdT
  by_cases q : t < 60
  · rw [if_pos q] at hi ⊢
    have hd : deM t = t / 3 := if_pos q
    rw [hd] at hi ho
    obtain ⟨m, m1, m2⟩ := g.1.2.2.2.2.2.2.2.1 (t / 3) (t % 3) ho.1 (by omega) hi.1
    unfold szT
    rw [m2]
    exact (pow_le8 m m1).1
  · rw [if_neg q] at hi ⊢
    have hd : deM t = t - 60 := if_neg q
    rw [hd] at hi
    omega
theorem SmSt_of (hR : RC A c0 w n a dv sp) (hk : 0 ≤ k ∧ k < 2) {ids : List Int} (h0 : 0 ≤ z.2.2.2.2.2) (h1 : z.2.2.2.2.2 ≤ 27) (hz : shL z = ids.map (recC c0 k)) (hi : ∀ t ∈ ids, ThN A a k t) : SmSt z (ids.map (prT A k)) := by
  obtain ⟨g, hc, hC, hF, ha, hd, hsp⟩ := id hR
  obtain ⟨τ, t1, t2⟩ := map_idx _ _ _ _ (show (rgL 0 z.2.2.2.2.2.toNat).map (rowZ z) = ids.map (recC c0 k) from hz)
  have hin : ∀ i : Int, 0 ≤ i → i < z.2.2.2.2.2 → τ i ∈ ids := fun i i0 i1 => by
    rw [t2]
    exact List.mem_map.mpr ⟨i, (mem_rgL _ _ _).mpr ⟨i0, by omega⟩, rfl⟩
  have hrow : ∀ i : Int, 0 ≤ i → i < z.2.2.2.2.2 → (z.2.2.2.2.1 i, z.2.2.2.1 i) = prT A k (τ i) := fun i i0 i1 => by
    have hx := t1 i i0 (by omega)
    have ht := hi _ (hin i i0 i1)
    obtain ⟨r1, r2⟩ := rec_now hc g hk ht.1 ht.2.1 ht.2.2.1
    unfold rowZ recC at hx
    simp only [Prod.mk.injEq] at hx
    unfold prT
    rw [hx.2.2.2.1, hx.2.2.2.2, r1, r2]
  refine ⟨⟨h0, h1⟩, fun i i0 i1 => ?_, fun p hp => ?_, fun p hp => ?_⟩
  · rw [hrow i i0 i1]
    exact List.mem_map.mpr ⟨_, hin i i0 i1, rfl⟩
  · obtain ⟨t, ht, rfl⟩ := List.mem_map.mp hp
    rw [t2] at ht
    obtain ⟨i, hi', rfl⟩ := List.mem_map.mp ht
    have hi' := (mem_rgL _ _ _).mp hi'
    exact ⟨i, hi'.1, by omega, hrow i hi'.1 (by omega)⟩
  · obtain ⟨t, ht, rfl⟩ := List.mem_map.mp hp
    exact th_bd g hk (hi t ht)
theorem wbg_bd (hw : BwM A bu k) : 0 ≤ wbg A bu k ∧ wbg A bu k ≤ 1024 ∧ wbg A bu k + wiM A bu k ≤ 1024 := by
  unfold wbg
  obtain ⟨w1, w2, w3⟩ := hw
  split
  · omega
  · rename_i q
    have := w3.resolve_left q
    omega
/-- one row tried by the class -/
theorem row_cls (hR : RC A c0 w n a dv sp) (hk : 0 ≤ k ∧ k < 2) {P : zPl} {len : Int} {τM : Int → Int} (hK : KcR A P.1 c0 k) (hB : shL P.2.1 = (thL c0 w n a k).map (recC c0 k)) (hBn : 0 ≤ P.2.1.2.2.2.2.2 ∧ P.2.1.2.2.2.2.2 ≤ 24) (hMv : shL P.2.2.1 = (mvL c0 w n a k).map (recC c0 k)) (hMn : 0 ≤ P.2.2.1.2.2.2.2.2 ∧ P.2.2.1.2.2.2.2.2 ≤ 24) (hτ : mvL c0 w n a k = (rgL 0 P.2.2.1.2.2.2.2.2.toNat).map τM) (hch : ChR P.2.2.2.2.2 len P.2.2.1.2.2.2.2.2) (hfl : (fxL c0 w n a k).length + P.2.2.1.2.2.2.2.2 ≤ 24) : ∃ (τ : Int → Int) (N : Int), (0 ≤ N ∧ N ≤ 6) ∧ List.Pairwise (bef A dv) ((rgL 0 N.toNat).map τ) ∧ (∀ t, t ∈ (rgL 0 N.toNat).map τ ↔ t ∈ unL c0 dv k len τM P.2.2.2.2.2) ∧ (((fr1 sp dv a k len P).1 = 0 ∧ PlF (wbg A (bfM a) k) (wbg A (bfM a) k + wiM A (bfM a) k) (szT A) ((stL c0 w n a k P.2.2.1.2.2.2.2.2 len τM P.2.2.2.2.2).map (prT A k)) ((rgL 0 N.toNat).map τ)) ∨ ((fr1 sp dv a k len P).1 = 1 ∧ PlO (wbg A (bfM a) k) (wbg A (bfM a) k + wiM A (bfM a) k) (szT A) ((stL c0 w n a k P.2.2.1.2.2.2.2.2 len τM P.2.2.2.2.2).map (prT A k)) ((rgL 0 N.toNat).map τ) ((rgL 0 N.toNat).map (fr1 sp dv a k len P).2.2.2.2.2.1.2.2.2.2.1) ∧ (fr1 sp dv a k len P).2.2.2.2.2.1.2.2.2.2.2 = N ∧ ∀ j : Int, 0 ≤ j → j < N → (fr1 sp dv a k len P).2.2.2.2.2.1.1 j = deM (τ j) ∧ (fr1 sp dv a k len P).2.2.2.2.2.1.2.1 j = apV (τ j))) ∧ (fr1 sp dv a k len P).2.1 = P.1 ∧ (fr1 sp dv a k len P).2.2.1 = P.2.1 ∧ (fr1 sp dv a k len P).2.2.2.1 = P.2.2.1 ∧ (fr1 sp dv a k len P).2.2.2.2.2.2 = P.2.2.2.2.2 := by
  obtain ⟨g, hc, hC, hF, ha, hd, hsp⟩ := id hR
  obtain ⟨hl, hc1, hc2⟩ := hch
  have hr := th_rg hd.1.1
  -- what stays, at first
  obtain ⟨u1, u2, u3⟩ := sh_tuf (z := P.2.1) (M := P.2.2.2.1) hBn.1 (by omega)
  rw [hB, (filt_map hR hk).2] at u1
  have u2' : (lp (tuf P.2.1) (min P.2.1.2.2.2.2.2 27).toNat 0 (clrS P.2.2.2.1)).2.2.2.2.2 = (fxL c0 w n a k).length := by
    have := shL_len u2
    rw [u1, List.length_map] at this
    exact this.symm
  -- its own
  have e6 : gt P.1 dv 6 ≤ 3 := hs3 (Kc_HsB hK (Cls_HsB hC)) dv
  have eo : apsL P.1 dv k = apsL c0 dv k := Kc_aps hK (Cls_HsB hC)
  have ol := own_len (k := k) hR
  obtain ⟨o1, o2⟩ := sh_aps (c := P.1) (e := dv) (k := k) (z := clrS P.2.2.2.2.1) hr.1 hr.2 e6 (Int.le_refl _) (by
    rw [eo]
    show (0 : Int) + _ ≤ 27
    omega)
  rw [eo, shL_clr, List.nil_append] at o1
  rw [eo] at o2
  have o3 : (clrS P.2.2.2.2.1).2.2.2.2.2 = 0 := rfl
  rw [o3] at o2
  have o1' : shL (apsS P.1 dv k (clrS P.2.2.2.2.1)) = (apsL c0 dv k).map (recC P.1 k) := o1
  -- parted
  obtain ⟨v1, v2, v3, v4⟩ := tu2_loop (M := P.2.2.1) (ch := P.2.2.2.2.2) (len := len) hl (by omega) (fun j j0 j1 => (hc1 j j0 j1).2) hc2 P.2.2.1.2.2.2.2.2.toNat 0 (0, lp (tuf P.2.1) (min P.2.1.2.2.2.2.2 27).toNat 0 (clrS P.2.2.2.1), apsS P.1 dv k (clrS P.2.2.2.2.1)) (by omega) (by omega) (by dsimp only; omega) (fun j j0 j1 => by dsimp only at j1; omega) (fun j j0 j1 => (hc1 j j0 j1).1) u2 (by dsimp only; rw [u2']; omega) (by dsimp only; omega) (by dsimp only; omega)
  dsimp only at v1 v2 v3 v4
  have hrow : ∀ j : Int, 0 ≤ j → j < P.2.2.1.2.2.2.2.2 → rowZ P.2.2.1 j = recC c0 k (τM j) := fun j j0 j1 => by
    have h := hMv
    rw [hτ, shL_row, List.map_map] at h
    exact map_rg_inj2 P.2.2.1.2.2.2.2.2.toNat 0 h j j0 (by omega)
  rw [o1', Int.sub_zero] at v2
  have v2' : shL (lp (tu2 P.2.2.1 P.2.2.2.2.2 len) P.2.2.1.2.2.2.2.2.toNat 0 (0, lp (tuf P.2.1) (min P.2.1.2.2.2.2.2 27).toNat 0 (clrS P.2.2.2.1), apsS P.1 dv k (clrS P.2.2.2.2.1))).2.2 = (unL c0 dv k len τM P.2.2.2.2.2).map (recC P.1 k) := by
    rw [v2]
    unfold unL
    rw [List.map_append, List.map_map]
    refine congrArg _ (List.map_congr_left (fun j hj => ?_))
    have hj := (mem_rgL _ _ _).mp hj
    have := hc1 j hj.1 (by omega)
    refine (hrow _ this.1 this.2).trans (Eq.symm ?_)
    have hm : τM (P.2.2.2.2.2 j) ∈ mvL c0 w n a k := by
      rw [hτ]
      exact List.mem_map.mpr ⟨_, (mem_rgL _ _ _).mpr ⟨this.1, by omega⟩, rfl⟩
    obtain ⟨⟨t0, t1, ti, tb⟩, t6⟩ := (mem_mvL hR hk).mp hm
    have ti2 := ti.2
    rw [if_pos t6] at ti2
    exact Kc_rec (t := τM (P.2.2.2.2.2 j)) hK hk t0 (fun _ => ⟨ti.1, by omega⟩)
  have v1' : shL (lp (tu2 P.2.2.1 P.2.2.2.2.2 len) P.2.2.1.2.2.2.2.2.toNat 0 (0, lp (tuf P.2.1) (min P.2.1.2.2.2.2.2 27).toNat 0 (clrS P.2.2.2.1), apsS P.1 dv k (clrS P.2.2.2.2.1))).2.1 = (stL c0 w n a k P.2.2.1.2.2.2.2.2 len τM P.2.2.2.2.2).map (recC c0 k) := by
    rw [v1, u1]
    unfold stL
    rw [List.map_append, List.map_map]
    refine congrArg _ (List.map_congr_left (fun j hj => ?_))
    have hj := (mem_rgL _ _ _).mp (List.mem_filter.mp hj).1
    exact hrow _ hj.1 (by omega)
  have hfr : fr1 sp dv a k len P = ((ldS (begf P.1 a k) (begf P.1 a k + lenf P.1 sp a k) (min (tuS P.1 dv k len P).2.2.2.2.1.2.2.2.2.2 27).toNat 0 ((tuS P.1 dv k len P).2.2.2.1, (tuS P.1 dv k len P).2.2.2.2.1)).1, (P.1, P.2.1, P.2.2.1, (ldS (begf P.1 a k) (begf P.1 a k + lenf P.1 sp a k) (min (tuS P.1 dv k len P).2.2.2.2.1.2.2.2.2.2 27).toNat 0 ((tuS P.1 dv k len P).2.2.2.1, (tuS P.1 dv k len P).2.2.2.2.1)).2.1, (ldS (begf P.1 a k) (begf P.1 a k + lenf P.1 sp a k) (min (tuS P.1 dv k len P).2.2.2.2.1.2.2.2.2.2 27).toNat 0 ((tuS P.1 dv k len P).2.2.2.1, (tuS P.1 dv k len P).2.2.2.2.1)).2.2, P.2.2.2.2.2)) := rfl
  have hst : (tuS P.1 dv k len P).2.2.2.1 = (lp (tu2 P.2.2.1 P.2.2.2.2.2 len) P.2.2.1.2.2.2.2.2.toNat 0 (0, lp (tuf P.2.1) (min P.2.1.2.2.2.2.2 27).toNat 0 (clrS P.2.2.2.1), apsS P.1 dv k (clrS P.2.2.2.2.1))).2.1 := rfl
  have hlo : (tuS P.1 dv k len P).2.2.2.2.1 = ordS (lp (tu2 P.2.2.1 P.2.2.2.2.2 len) P.2.2.1.2.2.2.2.2.toNat 0 (0, lp (tuf P.2.1) (min P.2.1.2.2.2.2.2 27).toNat 0 (clrS P.2.2.2.1), apsS P.1 dv k (clrS P.2.2.2.2.1))).2.2 := rfl
  rw [hfr, hst, hlo]
  clear hfr hst hlo v1 v2 o1 o1' u1
  generalize lp (tu2 P.2.2.1 P.2.2.2.2.2 len) P.2.2.1.2.2.2.2.2.toNat 0 (0, lp (tuf P.2.1) (min P.2.1.2.2.2.2.2 27).toNat 0 (clrS P.2.2.2.1), apsS P.1 dv k (clrS P.2.2.2.2.1)) = G at *
  -- in order
  have hN : G.2.2.2.2.2.2.2 = (apsL c0 dv k).length + len := by omega
  obtain ⟨σ, ⟨s1, s2, s3⟩, s4⟩ := ord_sp G.2.2 (by omega) (by omega)
  obtain ⟨uu, w1, w2⟩ := map_idx _ _ _ _ (show (rgL 0 G.2.2.2.2.2.2.2.toNat).map (rowZ G.2.2) = (unL c0 dv k len τM P.2.2.2.2.2).map (recC P.1 k) from v2')
  have hmemU : ∀ t, t ∈ unL c0 dv k len τM P.2.2.2.2.2 ↔ ∃ i : Int, 0 ≤ i ∧ i < G.2.2.2.2.2.2.2 ∧ uu i = t := fun t => by
    rw [w2, List.mem_map]
    constructor
    · rintro ⟨i, hi, rfl⟩
      have := (mem_rgL _ _ _).mp hi
      exact ⟨i, this.1, by omega, rfl⟩
    · rintro ⟨i, i0, i1, rfl⟩
      exact ⟨i, (mem_rgL _ _ _).mpr ⟨i0, by omega⟩, rfl⟩
  have hUin : ∀ t, t ∈ unL c0 dv k len τM P.2.2.2.2.2 → t ∈ apsL c0 dv k ∨ t ∈ mvL c0 w n a k := fun t ht => by
    unfold unL at ht
    rcases List.mem_append.mp ht with h | h
    · exact Or.inl h
    · right
      obtain ⟨j, hj, rfl⟩ := List.mem_map.mp h
      have hj := (mem_rgL _ _ _).mp hj
      have := hc1 j hj.1 (by omega)
      rw [hτ]
      exact List.mem_map.mpr ⟨_, (mem_rgL _ _ _).mpr ⟨this.1, by omega⟩, rfl⟩
  have hpwU : List.Pairwise (fun x y => ixA A dv x < ixA A dv y) (unL c0 dv k len τM P.2.2.2.2.2) := by
    unfold unL
    have hown : ∀ t ∈ apsL c0 dv k, ixA A dv t ≤ 2 := fun t ht => by
      obtain ⟨b, b0, b1, b2, rfl⟩ := (own_rg hR).mp ht
      have h5 := MG_many g.1.1 hr
      rw [(sz_own (A := A) hr (show 0 ≤ b ∧ b < 3 by omega)).2]
      omega
    have hmv : ∀ t ∈ mvL c0 w n a k, ixA A dv t = 3 + raM A t ∧ 0 ≤ raM A t := fun t ht => by
      obtain ⟨⟨t0, t1, ⟨to, ti⟩, tb⟩, t6⟩ := (mem_mvL hR hk).mp ht
      refine ⟨?_, ra_nn g.1.1 ⟨t0, t1⟩⟩
      unfold ixA
      exact if_neg (show ¬ deM t = dv from fun q => hd.2 (by rw [← q]; exact to))
    have hcin : ∀ j : Int, 0 ≤ j → j < len → τM (P.2.2.2.2.2 j) ∈ mvL c0 w n a k := fun j j0 j1 => by
      have := hc1 j j0 j1
      rw [hτ]
      exact List.mem_map.mpr ⟨_, (mem_rgL _ _ _).mpr ⟨this.1, by omega⟩, rfl⟩
    rw [List.pairwise_append]
    refine ⟨?_, ?_, ?_⟩
    · have hpw := pw_apsL (A := A) (c := c0) (k := k) hr.1 hr.2 (Cls_HsB hC dv hr.1 hr.2)
      refine List.Pairwise.imp_of_mem ?_ hpw
      intro x y hx hy hxy
      obtain ⟨b, b0, b1, b2, rfl⟩ := (own_rg hR).mp hx
      obtain ⟨b', b0', b1', b2', rfl⟩ := (own_rg hR).mp hy
      have h5 := MG_many g.1.1 hr
      rw [(sz_own (A := A) hr (show 0 ≤ b ∧ b < 3 by omega)).2, (sz_own (A := A) hr (show 0 ≤ b' ∧ b' < 3 by omega)).2]
      obtain ⟨d1, d2, d3, d4⟩ := de_ap hr.1 hr.2 b0 (show b < 3 by omega)
      obtain ⟨d1', d2', d3', d4'⟩ := de_ap hr.1 hr.2 b0' (show b' < 3 by omega)
      unfold raM at hxy
      rw [d1, d1', d3, d3', if_pos d4, if_pos d4'] at hxy
      omega
    · refine pw_of_idx (m := len.toNat) (fun i j i0 ij j1 => ?_)
      have hlt := hc2 i j i0 ij (by omega)
      have hi := hc1 i i0 (by omega)
      have hj := hc1 j (by omega) (by omega)
      have hpw := pw_mvL (k := k) hR
      rw [hτ] at hpw
      have := pw_idx _ _ hpw _ _ hi.1 hlt (by omega)
      rw [(hmv _ (hcin i i0 (by omega))).1, (hmv _ (hcin j (by omega) (by omega))).1]
      omega
    · intro x hx y hy
      obtain ⟨j, hj, rfl⟩ := List.mem_map.mp hy
      have hj := (mem_rgL _ _ _).mp hj
      have h1 := hown x hx
      have h2 := hmv _ (hcin j hj.1 (by omega))
      omega
  rw [w2] at hpwU
  refine ⟨fun i => uu (σ i), G.2.2.2.2.2.2.2, by omega, ?_, fun t => ?_, ?_, rfl, rfl, rfl, rfl⟩
  · refine pw_of_idx (fun i j i0 ij j1 => ?_)
    have hij := s4 i j i0 ij (by omega)
    obtain ⟨-, a0, a1⟩ := s1 i i0 (by omega)
    obtain ⟨-, b0, b1⟩ := s1 j (by omega) (by omega)
    have ra := w1 (σ i) a0 (by omega)
    have rb := w1 (σ j) b0 (by omega)
    have ha1 := un_recP hR hk hK (hUin _ ((hmemU _).mpr ⟨σ i, a0, a1, rfl⟩))
    have hb1 := un_recP hR hk hK (hUin _ ((hmemU _).mpr ⟨σ j, b0, b1, rfl⟩))
    have ea : G.2.2.2.2.1 (σ i) = szT A (uu (σ i)) ∧ G.2.2.2.2.2.1 (σ i) = szT A (uu (σ i)) := by
      rw [← ha1.2.1, ← ra]
      exact ⟨rfl, by rw [show (rowZ G.2.2 (σ i)).2.2.1 = (recC P.1 k (uu (σ i))).2.2.1 by rw [ra], ha1.2.1, ← ha1.2.2.1, ← ra]; rfl⟩
    have eb : G.2.2.2.2.1 (σ j) = szT A (uu (σ j)) ∧ G.2.2.2.2.2.1 (σ j) = szT A (uu (σ j)) := by
      rw [← hb1.2.1, ← rb]
      exact ⟨rfl, by rw [show (rowZ G.2.2 (σ j)).2.2.1 = (recC P.1 k (uu (σ j))).2.2.1 by rw [rb], hb1.2.1, ← hb1.2.2.1, ← rb]; rfl⟩
    unfold lt3 at hij
    rw [ea.1, ea.2, eb.1, eb.2] at hij
    unfold bef
    rcases hij with h | ⟨h1, h | ⟨h2, h3⟩⟩
    · exact Or.inl h
    · exact Or.inl h
    · exact Or.inr ⟨h1, pw_idx _ _ hpwU _ _ a0 h3 (by omega)⟩
  · rw [hmemU, List.mem_map]
    constructor
    · rintro ⟨i, hi, rfl⟩
      have hi := (mem_rgL _ _ _).mp hi
      obtain ⟨-, a0, a1⟩ := s1 i hi.1 (by omega)
      exact ⟨σ i, a0, a1, rfl⟩
    · rintro ⟨i, i0, i1, rfl⟩
      obtain ⟨j, j0, j1, j2⟩ := s2 i i0 i1
      exact ⟨j, (mem_rgL _ _ _).mpr ⟨j0, by omega⟩, by rw [j2]⟩
  · have hb := beg_now hc g hsp ha hk
    have hbw := bw_now g ha hk
    have hwb := wbg_bd hbw
    have eb1 : begf P.1 a k = wbg A (bfM a) k := by
      have : begf P.1 a k = begf c0 a k := by
        unfold begf
        rw [hK.1 a (20 + k) (by omega), hK.1 a (18 + k) (by omega)]
      rw [this, hb.2]
      rfl
    have eb2 : lenf P.1 sp a k = wiM A (bfM a) k := by
      have : lenf P.1 sp a k = lenf c0 sp a k := by
        unfold lenf
        rw [hK.1 a (20 + k) (by omega)]
      rw [this, hb.1]
    rw [eb1, eb2]
    have hids : ∀ t ∈ stL c0 w n a k P.2.2.1.2.2.2.2.2 len τM P.2.2.2.2.2, ThN A a k t := fun t ht => by
      unfold stL at ht
      rcases List.mem_append.mp ht with h | h
      · exact (thL_now hc g hF (Cls_HsB hC) hk).mp (List.mem_filter.mp h).1
      · obtain ⟨j, hj, rfl⟩ := List.mem_map.mp h
        have hj := (mem_rgL _ _ _).mp (List.mem_filter.mp hj).1
        refine ((mem_mvL hR hk).mp ?_).1
        rw [hτ]
        exact List.mem_map.mpr ⟨j, (mem_rgL _ _ _).mpr hj, rfl⟩
    have hSm := SmSt_of hR hk v3.1 (by omega) v1' hids
    have eN : (ordS G.2.2).2.2.2.2.2 = G.2.2.2.2.2.2.2 := s3
    rw [eN, show min G.2.2.2.2.2.2.2 27 = G.2.2.2.2.2.2.2 by omega]
    have hrd : ∀ j : Int, 0 ≤ j → j < G.2.2.2.2.2.2.2 → rowZ (ordS G.2.2) j = recC P.1 k (uu (σ j)) := fun j j0 j1 => by
      obtain ⟨r1, a0, a1⟩ := s1 j j0 j1
      rw [r1]
      exact w1 (σ j) a0 (by omega)
    have hun : ∀ j : Int, 0 ≤ j → j < G.2.2.2.2.2.2.2 → _ := fun j j0 j1 => un_recP hR hk hK (hUin _ ((hmemU _).mpr ⟨σ j, (s1 j j0 j1).2.1, (s1 j j0 j1).2.2, rfl⟩))
    have := ld_run (h := szT A) (bg := wbg A (bfM a) k) (en := wbg A (bfM a) k + wiM A (bfM a) k) (by omega) G.2.2.2.2.2.2.2.toNat 0 (G.2.1, ordS G.2.2) _ (fun i => uu (σ i)) hSm (by dsimp only; omega) (by omega) (by dsimp only; omega) (by dsimp only; omega) (fun j j0 j1 => by
      have h1 := hrd j j0 (by omega)
      have h2 := (hun j j0 (by omega)).2.2.1
      rw [← h1] at h2
      exact h2) (fun j j0 j1 => (hun j j0 (by omega)).2.2.2)
    rcases this with ⟨q1, q2⟩ | ⟨q1, q2, ⟨q3, q4, q5⟩, q6⟩
    · exact Or.inl ⟨q1, q2⟩
    · refine Or.inr ⟨q1, q2, ?_, fun j j0 j1 => ?_⟩
      · dsimp only
        rw [q5]
        exact s3
      · have h1 := hrd j j0 j1
        dsimp only
        rw [q3, q4]
        unfold rowZ recC at h1
        simp only [Prod.mk.injEq] at h1
        exact ⟨h1.1, h1.2.1⟩
end CB
