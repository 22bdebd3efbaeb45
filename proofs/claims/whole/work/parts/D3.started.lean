/-! A BRIDGE STARTED: the state is good again -/
section DD
variable {im X Y Z : zM} {c c' c0 s sp A B w w' T W Am : Int → Int} {e f a b x y d k m n u un st bg en bu v sz ad dv nt i t o fi la : Int} {z z0 M L : zSS} {p q r : Int → Bool}
/-- the table after a bridge was started -/
def StW (A : Int → Int) (dv fi la sz : Int) (W B : Int → Int) : Prop := (∀ e f : Int, 0 ≤ e → e < 20 → 0 ≤ f → f < 23 → (e ≠ dv ∨ (f ≠ 4 ∧ f < 17)) → B (23 * e + f) = A (23 * e + f)) ∧ B (23 * dv + 4) = 1 ∧ B (23 * dv + 17) = fi ∧ B (23 * dv + 18) = la ∧ (∀ k : Int, 0 ≤ k → k < 2 → B (23 * dv + (19 + k)) = W k ∧ B (23 * dv + (21 + k)) = sz) ∧ ∀ j : Int, 460 ≤ j → B j = A j
theorem br_StW (hr : 0 ≤ dv ∧ dv < 20) : StW A dv fi la sz W (brA' A W dv fi la sz) := by
  have hv : ∀ j, brA' A W dv fi la sz j = if j = 23 * dv + (21 + 1) then sz else if j = 23 * dv + (19 + 1) then W 1 else if j = 23 * dv + (21 + 0) then sz else if j = 23 * dv + (19 + 0) then W 0 else if j = 23 * dv + 18 then la else if j = 23 * dv + 17 then fi else if j = 23 * dv + 4 then 1 else A j := fun j => rfl
  refine ⟨fun e f e0 e1 f0 f1 hq => ?_, ?_, ?_, ?_, fun k k0 k1 => ?_, fun j hj => ?_⟩
  · rw [hv, if_neg (by omega), if_neg (by omega), if_neg (by omega), if_neg (by omega), if_neg (by omega), if_neg (by omega), if_neg (by omega)]
  · rw [hv, if_neg (by omega), if_neg (by omega), if_neg (by omega), if_neg (by omega), if_neg (by omega), if_neg (by omega), if_pos rfl]
  · rw [hv, if_neg (by omega), if_neg (by omega), if_neg (by omega), if_neg (by omega), if_neg (by omega), if_pos rfl]
  · rw [hv, if_neg (by omega), if_neg (by omega), if_neg (by omega), if_neg (by omega), if_pos rfl]
  · rcases (show k = 0 ∨ k = 1 by omega) with rfl | rfl
    · rw [hv, if_neg (by omega), if_neg (by omega), if_neg (by omega), if_pos rfl, hv, if_neg (by omega), if_neg (by omega), if_pos rfl]
      exact ⟨rfl, rfl⟩
    · rw [hv, if_neg (by omega), if_pos rfl, hv, if_pos rfl]
      exact ⟨rfl, rfl⟩
  · rw [hv, if_neg (by omega), if_neg (by omega), if_neg (by omega), if_neg (by omega), if_neg (by omega), if_neg (by omega), if_neg (by omega)]
/-- the windows of a started bridge -/
def WnS (A : Int → Int) (a sz : Int) (W : Int → Int) : Prop := ∀ k : Int, 0 ≤ k → k < 2 → (sz = 0 ∧ W k = -1) ∨ (0 < sz ∧ 0 ≤ W k ∧ beM A (bfM a) k ≤ W k ∧ W k + sz ≤ beM A (bfM a) k + wiM A (bfM a) k ∧ (W k + sz ≤ 1024 ∧ 0 < wiM A (bfM a) k) ∧ ∀ t, ThN A a k t → W k + sz ≤ bgT A t k ∨ bgT A t k + wdT A t k ≤ W k)
/-- the numbers of a started bridge -/
def NuS (A : Int → Int) (a fi la : Int) : Prop := fi ≤ la ∧ ∀ v : Int, fi ≤ v → v ≤ la → fuP A (bfM a) v
theorem stw_on (hr : 0 ≤ dv ∧ dv < 20) (ht : thM A dv) (h : StW A dv fi la sz W B) : onM B e ↔ onM A e ∨ e = dv := by
  have h0 : ∀ e : Int, 0 ≤ e → e < 20 → B (23 * e + 0) = A (23 * e + 0) := fun e e0 e1 => h.1 e 0 e0 e1 (by omega) (by omega) (by omega)
  constructor
  · rintro ⟨⟨e0, e1, e2⟩, e4⟩
    by_cases q : e = dv
    · exact Or.inr q
    · left
      rw [h0 e e0 (by omega)] at e2
      rw [h.1 e 4 e0 (by omega) (by omega) (by omega) (Or.inl q)] at e4
      exact ⟨⟨e0, e1, e2⟩, e4⟩
  · rintro (⟨⟨e0, e1, e2⟩, e4⟩ | rfl)
    · refine ⟨⟨e0, e1, by rw [h0 e e0 (by omega)]; exact e2⟩, ?_⟩
      by_cases q : e = dv
      · rw [q]
        exact h.2.1
      · rw [h.1 e 4 e0 (by omega) (by omega) (by omega) (Or.inl q)]
        exact e4
    · exact ⟨⟨ht.1, ht.2.1, by rw [h0 e hr.1 hr.2]; exact ht.2.2⟩, h.2.1⟩
theorem stw_good (g : gGd A) (hd : brM A dv ∧ ¬ onM A dv) (ha : A (23 * dv + 2) = a) (hbr : a = -1 ∨ onBr A a) (h : StW A dv fi la sz W B) (hs : 0 ≤ sz ∧ sz ≤ 1024) (hW : WnS A a sz W) (hN : NuS A a fi la) : gGd B := by
  have hr := th_rg hd.1.1
  have hM := g.1.1
  obtain ⟨b0, b4, b17, b18, bw, bfar⟩ := id h
  have h4 : Sh4 A B := fun e f e0 e1 f0 f1 => b0 e f e0 e1 f0 (by omega) (by omega)
  have hrw : ∀ e, 0 ≤ e → e < 20 → e ≠ dv → Rw A B e := fun e e0 e1 hne f f0 f1 => b0 e f e0 e1 f0 f1 (Or.inl hne)
  have hrow : ∀ e f : Int, 0 ≤ e → e < 20 → 0 ≤ f → f < 17 → f ≠ 4 → B (23 * e + f) = A (23 * e + f) := fun e f e0 e1 f0 f1 ff => b0 e f e0 e1 f0 (by omega) (Or.inr ⟨ff, f1⟩)
  have hon : ∀ e, onM B e ↔ onM A e ∨ e = dv := fun e => stw_on hr hd.1.1 h
  have hfs := fs_rg2 g hbr
  have hfi := (hN.2 fi (Int.le_refl _) hN.1).1
  have hla := (hN.2 la hN.1 (Int.le_refl _)).1
  have hMB : MG B := MG_frame hM (fun e e0 e1 => by
    by_cases q : e = dv
    · right
      subst q
      obtain ⟨m1, m2, m3, m4, m5, m6, m7, m8, m9, m10, m11⟩ := hM e e0 e1
      unfold MGr
      rw [hrow e 1 e0 e1 (by omega) (by omega) (by omega), hrow e 2 e0 e1 (by omega) (by omega) (by omega), hrow e 3 e0 e1 (by omega) (by omega) (by omega), hrow e 5 e0 e1 (by omega) (by omega) (by omega), hrow e 15 e0 e1 (by omega) (by omega) (by omega), hrow e 16 e0 e1 (by omega) (by omega) (by omega), b4, b17, b18]
      refine ⟨m1, m2, m3, by omega, m5, fun x x0 x1 => ?_, m7, m8, by omega, by omega, fun k k0 k1 => ?_⟩
      · rw [hrow e (6 + x) e0 e1 (by omega) (by omega) (by omega), hrow e (9 + x) e0 e1 (by omega) (by omega) (by omega), hrow e (12 + x) e0 e1 (by omega) (by omega) (by omega)]
        exact m6 x x0 x1
      · rw [(bw k k0 k1).1, (bw k k0 k1).2]
        rcases hW k k0 k1 with ⟨w1, w2⟩ | ⟨w1, w2, w3, w4, w5, w6⟩ <;> omega
    · exact Or.inl (hrw e e0 e1 q))
  have hbu : ∀ e, 0 ≤ e → e < 20 → buM B e = buM A e := fun e e0 e1 => by
    unfold buM
    rw [h4 e 2 e0 e1 (by omega) (by omega)]
  have hbus : ∀ u k : Int, 0 ≤ u ∧ u ≤ 20 → u ≠ dv → 0 ≤ k → k < 2 → beM B u k = beM A u k ∧ wiM B u k = wiM A u k ∧ fsM B u = fsM A u ∧ lsM B u = lsM A u := fun u k hu hne k0 k1 => by
    unfold beM wiM fsM lsM
    by_cases q : u = 20
    · simp only [if_pos q]
      exact ⟨trivial, bfar _ (by omega), trivial, trivial⟩
    · simp only [if_neg q]
      have hR := hrw u (by omega) (by omega) hne
      exact ⟨hR _ (by omega) (by omega), hR _ (by omega) (by omega), hR _ (by omega) (by omega), hR _ (by omega) (by omega)⟩
  -- the bus of what is ON is not dv
  have hnb : ∀ e, onM B e → (0 ≤ buM A e ∧ buM A e ≤ 20) ∧ buM A e ≠ dv := fun e he => by
    have her := th_rg he.1
    refine ⟨bu_rg hM her, fun q => ?_⟩
    have hp : A (23 * e + 2) = -1 ∨ onM A (A (23 * e + 2)) := by
      rcases (hon e).mp he with r | r
      · exact g.2.1 e r
      · rw [r, ha]
        exact hbr.imp id (fun s => s.1)
    unfold buM at q
    rcases hp with r | r
    · rw [if_pos (by omega)] at q
      omega
    · rw [if_neg (by have := r.1.1; omega)] at q
      rw [q] at r
      exact hd.2 r
  have hbf : buM A dv = bfM a := (bu_iff hM hr (bus_rg hbr)).mpr ha
  have hit : ∀ t k : Int, 0 ≤ t → t < 80 → 0 ≤ k → k < 2 → itM B t k → (t = 60 + dv ∧ 0 < sz ∧ bgT B t k = W k ∧ wdT B t k = sz) ∨ (deM t ≠ dv ∧ itM A t k ∧ bgT B t k = bgT A t k ∧ wdT B t k = wdT A t k) := fun t k t0 t1 k0 k1 hi => by
    have hdt := de_rg ⟨t0, t1⟩
    obtain ⟨io, i2⟩ := hi
    by_cases q : deM t = dv
    · left
      by_cases q6 : t < 60
      · rw [if_pos q6, q, hrow dv 5 hr.1 hr.2 (by omega) (by omega) (by omega), g.1.2.2.2.2.2.2.1 dv hd.1] at i2
        have := i2.1
        omega
      · have hd6 : deM t = t - 60 := if_neg q6
        rw [if_neg q6, q, (bw k k0 k1).2] at i2
        refine ⟨by omega, i2, ?_, ?_⟩
        · unfold bgT
          rw [if_neg q6, ← hd6, q, (bw k k0 k1).1]
        · unfold wdT
          rw [if_neg q6, ← hd6, q, (bw k k0 k1).2]
    · right
      have hR := hrw _ hdt.1 hdt.2 q
      have hoA := ((hon _).mp io).resolve_right q
      refine ⟨q, ⟨hoA, ?_⟩, ?_, ?_⟩
      · split
        · rename_i q6
          rw [if_pos q6, hR 5 (by omega) (by omega), hR (6 + t % 3) (by omega) (by omega)] at i2
          exact i2
        · rename_i q6
          rw [if_neg q6, hR (21 + k) (by omega) (by omega)] at i2
          exact i2
      · unfold bgT bsT
        split
        · rename_i q6
          have d1 : deM t = t / 3 := if_pos q6
          have := hR (12 + t % 3) (by omega) (by omega)
          rw [d1] at this
          exact this
        · rename_i q6
          have d1 : deM t = t - 60 := if_neg q6
          have := hR (19 + k) (by omega) (by omega)
          rw [d1] at this
          exact this
      · unfold wdT szT
        split
        · rename_i q6
          have d1 : deM t = t / 3 := if_pos q6
          have := hR (9 + t % 3) (by omega) (by omega)
          rw [d1] at this
          exact this
        · rename_i q6
          have d1 : deM t = t - 60 := if_neg q6
          have := hR (21 + k) (by omega) (by omega)
          rw [d1] at this
          exact this
  obtain ⟨g3, g4, g5, g6, g7, g8, g9⟩ := g.1.2.2
  have hnf : ∀ v e : Int, fi ≤ v → v ≤ la → onM A e → A (23 * e + 1) = 1 → A (23 * e + 2) = a → ¬ (A (23 * e + 17) ≤ v ∧ v ≤ A (23 * e + 18)) := fun v e v0 v1 he hb hp q => by
    have hf := ff_none 20 0 (by omega) (hN.2 v v0 v1).2 e he.1.1 (by have := he.1.2.1; omega)
    unfold nfB at hf
    exact absurd ⟨he, hb, (bu_iff hM (th_rg he.1) (bus_rg hbr)).mpr hp, q.1, q.2⟩ (of_decide_eq_false hf)
  refine ⟨gT_of h4 g.1 hMB (by rw [bfar _ (by omega)]; exact g3) (fun k k0 k1 => by rw [bfar _ (by omega)]; exact g4 k k0 k1) (fun e q => ?_) (fun e x q x0 x1 => ?_) (fun e k q k0 k1 => ?_), fun e q => ?_, fun e q q' => ?_, fun e q q' => ?_, fun e f hef q1 q2 q3 q4 q5 => ?_, fun t k t0 t1 k0 k1 hi => ?_, fun t o k t0 t1 o0 o1 hto k0 k1 hi1 hi2 hpp => ?_⟩
  · have hq := (Sh4_br h4).mp q
    rw [hrow e 5 hq.1.1 (th_rg hq.1).2 (by omega) (by omega) (by omega)]
    exact g7 e hq
  · have hq := (Sh4_th h4).mp q
    have hqr := th_rg hq
    rw [hrow e 5 hqr.1 hqr.2 (by omega) (by omega) (by omega)] at x1
    have h5e := MG_many hM hqr
    rw [hrow e (9 + x) hqr.1 hqr.2 (by omega) (by omega) (by omega)]
    exact g8 e x hq x0 x1
  · have hq := (Sh4_ep h4).mp q
    have hqr := th_rg hq.1
    have hne : e ≠ dv := fun s => by
      have h1 := hq.2
      have h2 := hd.1.2
      rw [s] at h1
      omega
    rw [hrw e hqr.1 hqr.2 hne (21 + k) (by omega) (by omega)]
    exact g9 e k hq k0 k1
  · have hqr := th_rg q.1
    rw [h4 e 2 hqr.1 hqr.2 (by omega) (by omega)]
    rcases (hon e).mp q with r | r
    · exact (g.2.1 e r).imp id (fun s => (hon _).mpr (Or.inl s))
    · rw [r, ha]
      exact hbr.imp id (fun s => (hon _).mpr (Or.inl s.1))
  · have hq := (Sh4_th h4).mp q
    have hqr := th_rg hq
    have hn : ¬ onM A e := fun s => q' ((hon e).mpr (Or.inl s))
    have hne : e ≠ dv := fun s => q' ((hon e).mpr (Or.inr s))
    have hR := hrw e hqr.1 hqr.2 hne
    obtain ⟨o1, o2, o3, o4⟩ := g.2.2.1 e hq hn
    refine ⟨?_, ?_, fun x x0 x1 => ?_, fun k k0 k1 => ⟨?_, ?_⟩⟩
    · rw [hR 17 (by omega) (by omega)]; exact o1
    · rw [hR 18 (by omega) (by omega)]; exact o2
    · rw [hR (12 + x) (by omega) (by omega)]; exact o3 x x0 x1
    · rw [hR (19 + k) (by omega) (by omega)]; exact (o4 k k0 k1).1
    · rw [hR (21 + k) (by omega) (by omega)]; exact (o4 k k0 k1).2
  · have hqr := th_rg q.1
    obtain ⟨n1, n2⟩ := hnb e q
    have hb := hbus (buM A e) 0 n1 n2 (by omega) (by omega)
    rw [hbu e hqr.1 hqr.2, hb.2.2.1, hb.2.2.2]
    by_cases r : e = dv
    · rw [r, b17, b18, hbf]
      have hfl : fi ≤ la := hN.1
      omega
    · have hR := hrw e hqr.1 hqr.2 r
      have hoA := ((hon e).mp q).resolve_right r
      rw [hR 1 (by omega) (by omega)] at q'
      rw [hR 17 (by omega) (by omega), hR 18 (by omega) (by omega)]
      exact g.2.2.2.1 e hoA q'
  · have her := th_rg q1.1
    have hfr := th_rg q3.1
    rw [h4 e 2 her.1 her.2 (by omega) (by omega), h4 f 2 hfr.1 hfr.2 (by omega) (by omega)] at q5
    rw [h4 e 1 her.1 her.2 (by omega) (by omega)] at q2
    rw [h4 f 1 hfr.1 hfr.2 (by omega) (by omega)] at q4
    have key : ∀ e : Int, e ≠ dv → onM B e → A (23 * e + 1) = 1 → A (23 * e + 2) = a → la < B (23 * e + 17) ∨ B (23 * e + 18) < fi := fun e hne he hb hp => by
      have her := th_rg he.1
      have hR := hrw e her.1 her.2 hne
      have hoA := ((hon e).mp he).resolve_right hne
      rw [hR 17 (by omega) (by omega), hR 18 (by omega) (by omega)]
      have hg := (g.2.2.2.1 e hoA hb).1
      have h1 := hnf fi e (Int.le_refl _) hN.1 hoA hb hp
      have h2 := hnf (A (23 * e + 17)) e
      by_cases r1 : fi ≤ A (23 * e + 17)
      · by_cases r2 : A (23 * e + 17) ≤ la
        · exact absurd ⟨Int.le_refl _, hg.2.1⟩ (h2 r1 r2 hoA hb hp)
        · exact Or.inl (by omega)
      · right
        omega
    by_cases r1 : e = dv
    · subst r1
      rw [b17, b18]
      have := key f (fun s => hef s.symm) q3 q4 (by rw [← q5]; exact ha)
      omega
    · by_cases r2 : f = dv
      · subst r2
        rw [b17, b18]
        have := key e r1 q1 q2 (by rw [q5]; exact ha)
        omega
      · have hRe := hrw e her.1 her.2 r1
        have hRf := hrw f hfr.1 hfr.2 r2
        rw [hRe 17 (by omega) (by omega), hRe 18 (by omega) (by omega), hRf 17 (by omega) (by omega), hRf 18 (by omega) (by omega)]
        exact g.2.2.2.2.1 e f hef (((hon e).mp q1).resolve_right r1) q2 (((hon f).mp q3).resolve_right r2) q4 q5
  · have hdt := de_rg ⟨t0, t1⟩
    obtain ⟨n1, n2⟩ := hnb (deM t) hi.1
    have hb := hbus (buM A (deM t)) k n1 n2 k0 k1
    rw [hbu _ hdt.1 hdt.2, hb.1, hb.2.1]
    rcases hit t k t0 t1 k0 k1 hi with ⟨i1, i2, i3, i4⟩ | ⟨i1, i2, i3, i4⟩
    · rw [i3, i4, i1, (de_br hr.1).1, hbf]
      rcases hW k k0 k1 with ⟨w1, w2⟩ | ⟨w1, w2, w3, w4, w5, w6⟩
      · omega
      · exact ⟨w5.2, w3, w4, w2, w5.1⟩
    · rw [i3, i4]
      exact g.2.2.2.2.2.1 t k t0 t1 k0 k1 i2
  · have hdt := de_rg ⟨t0, t1⟩
    have hdo := de_rg ⟨o0, o1⟩
    rw [h4 _ 2 hdt.1 hdt.2 (by omega) (by omega), h4 _ 2 hdo.1 hdo.2 (by omega) (by omega)] at hpp
    have key : ∀ o : Int, 0 ≤ o → o < 80 → itM A o k → A (23 * deM o + 2) = a → 0 < sz → W k + sz ≤ bgT A o k ∨ bgT A o k + wdT A o k ≤ W k := fun o o0 o1 io ho hs0 => by
      rcases hW k k0 k1 with ⟨w1, w2⟩ | ⟨w1, w2, w3, w4, w5, w6⟩
      · omega
      · exact w6 o ⟨o0, o1, io, ho⟩
    rcases hit t k t0 t1 k0 k1 hi1 with ⟨i1, i2, i3, i4⟩ | ⟨i1, i2, i3, i4⟩
    · rcases hit o k o0 o1 k0 k1 hi2 with ⟨j1, j2, j3, j4⟩ | ⟨j1, j2, j3, j4⟩
      · omega
      · rw [i3, i4, j3, j4]
        refine key o o0 o1 j2 ?_ i2
        rw [← hpp, i1, (de_br hr.1).1]
        exact ha
    · rcases hit o k o0 o1 k0 k1 hi2 with ⟨j1, j2, j3, j4⟩ | ⟨j1, j2, j3, j4⟩
      · rw [i3, i4, j3, j4]
        have := key t t0 t1 i2 (by
          rw [hpp, j1, (de_br hr.1).1]
          exact ha) j2
        exact this.symm
      · rw [i3, i4, j3, j4]
        exact g.2.2.2.2.2.2 t o k t0 t1 o0 o1 hto k0 k1 i2 j2 hpp
/-- class and reference stand alike -/
theorem stw_GdT (hT : GdT gGd X 120 A) (hd : brM A dv ∧ ¬ onM A dv) (ha : A (23 * dv + 2) = a) (hbr : a = -1 ∨ onBr A a) (h : StW A dv fi la sz W B) (hs : 0 ≤ sz ∧ sz ≤ 1024) (hW : WnS A a sz W) (hN : NuS A a fi la) (hY : ∀ p : Nat, 120 ≤ p → p ≤ 124 → p ≠ 121 → Y p = X p) (hc1 : ∀ e f : Int, ¬ (e = dv ∧ (18 ≤ f ∧ f ≤ 21)) → gt c e f = gt (X 121) e f) (hc2 : ∀ k : Int, 0 ≤ k → k < 2 → gt c dv (18 + k) = W k ∧ gt c dv (20 + k) = sz) (hY1 : Y 121 = stc (stc (stc c dv 7 fi) dv 8 la) dv 3 1) : GdT gGd Y 120 B := by
  obtain ⟨⟨t1, t2, t3, t4, t5, t6⟩, g, hC⟩ := hT
  have t1 : SimC (X 121) A := t1
  have hC : Cls (X 121) := hC
  have hM := g.1.1
  have hr := th_rg hd.1.1
  have hg := stw_good g hd ha hbr h hs hW hN
  obtain ⟨b0, b4, b17, b18, bw, bfar⟩ := id h
  have h4 : Sh4 A B := fun e f e0 e1 f0 f1 => b0 e f e0 e1 f0 (by omega) (by omega)
  have hrw : ∀ e, 0 ≤ e → e < 20 → e ≠ dv → Rw A B e := fun e e0 e1 hne f f0 f1 => b0 e f e0 e1 f0 f1 (Or.inl hne)
  have hrow : ∀ e f : Int, 0 ≤ e → e < 20 → 0 ≤ f → f < 17 → f ≠ 4 → B (23 * e + f) = A (23 * e + f) := fun e f e0 e1 f0 f1 ff => b0 e f e0 e1 f0 (by omega) (Or.inr ⟨ff, f1⟩)
  obtain ⟨w1, w2⟩ := wk_Sh4 h4 (gT_S g.1)
  have hgne : ∀ e f : Int, e ≠ dv → gt (stc (stc (stc c dv 7 fi) dv 8 la) dv 3 1) e f = gt (X 121) e f := fun e f hne => by
    rw [gt_stc, if_neg (fun q => hne q.1), gt_stc, if_neg (fun q => hne q.1), gt_stc, if_neg (fun q => hne q.1)]
    exact hc1 e f (fun q => hne q.1)
  have hgd : ∀ f : Int, f ≠ 3 → f ≠ 7 → f ≠ 8 → (f < 18 ∨ 21 < f) → gt (stc (stc (stc c dv 7 fi) dv 8 la) dv 3 1) dv f = gt (X 121) dv f := fun f f3 f7 f8 ff => by
    rw [gt_stc, if_neg (by omega), gt_stc, if_neg (by omega), gt_stc, if_neg (by omega)]
    exact hc1 dv f (by omega)
  have hg3 : gt (stc (stc (stc c dv 7 fi) dv 8 la) dv 3 1) dv 3 = 1 := by
    rw [gt_stc, if_pos ⟨rfl, rfl, hr.1, hr.2, by omega, by omega⟩]
  have hg7 : gt (stc (stc (stc c dv 7 fi) dv 8 la) dv 3 1) dv 7 = fi := by
    rw [gt_stc, if_neg (by omega), gt_stc, if_neg (by omega), gt_stc, if_pos ⟨rfl, rfl, hr.1, hr.2, by omega, by omega⟩]
  have hg8 : gt (stc (stc (stc c dv 7 fi) dv 8 la) dv 3 1) dv 8 = la := by
    rw [gt_stc, if_neg (by omega), gt_stc, if_pos ⟨rfl, rfl, hr.1, hr.2, by omega, by omega⟩]
  have hgw : ∀ k : Int, 0 ≤ k → k < 2 → gt (stc (stc (stc c dv 7 fi) dv 8 la) dv 3 1) dv (18 + k) = W k ∧ gt (stc (stc (stc c dv 7 fi) dv 8 la) dv 3 1) dv (20 + k) = sz := fun k k0 k1 => by
    rw [gt_stc, if_neg (by omega), gt_stc, if_neg (by omega), gt_stc, if_neg (by omega), gt_stc, if_neg (by omega), gt_stc, if_neg (by omega), gt_stc, if_neg (by omega)]
    exact hc2 k k0 k1
  refine ⟨⟨?_, ?_, ?_, ?_, ?_, ?_⟩, hg, ?_⟩
  · show SimC (Y 121) B
    rw [hY1]
    refine SimC_frame t1 hM (fun e e0 e1 => ?_)
    by_cases r : e = dv
    · right
      subst r
      obtain ⟨q1, q2, q3, q4⟩ := t1 e e0 e1
      unfold SmR
      rw [hrow e 1 e0 e1 (by omega) (by omega) (by omega), hrow e 0 e0 e1 (by omega) (by omega) (by omega), b4]
      refine ⟨q1, Or.inr rfl, fun hth => ?_, fun hth => absurd hd.1.1.2.2 hth⟩
      obtain ⟨d1, d2, d3, d4, d5, d6, d7, d8, d9⟩ := q3 hth
      unfold SimD
      rw [hrow e 1 e0 e1 (by omega) (by omega) (by omega), hrow e 2 e0 e1 (by omega) (by omega) (by omega), hrow e 3 e0 e1 (by omega) (by omega) (by omega), b4, hrow e 5 e0 e1 (by omega) (by omega) (by omega), hrow e 15 e0 e1 (by omega) (by omega) (by omega), hrow e 16 e0 e1 (by omega) (by omega) (by omega), b17, b18, hg3, hg7, hg8, hgd 0 (by omega) (by omega) (by omega) (by omega), hgd 1 (by omega) (by omega) (by omega) (by omega), hgd 2 (by omega) (by omega) (by omega) (by omega), hgd 6 (by omega) (by omega) (by omega) (by omega), hgd 4 (by omega) (by omega) (by omega) (by omega), hgd 5 (by omega) (by omega) (by omega) (by omega)]
      have h50 := (d9 hd.1.2).1
      refine ⟨d1, d2, d3, rfl, d5, d6, d7, fun x x0 x1 => by omega, fun hb => ⟨h50, fun _ => ⟨rfl, rfl, fun k k0 k1 => ?_⟩⟩⟩
      rw [(hgw k k0 k1).1, (hgw k k0 k1).2, (bw k k0 k1).1, (bw k k0 k1).2]
      exact ⟨rfl, rfl⟩
    · exact Or.inl ⟨hrw e e0 e1 r, fun f => hgne e f r⟩
  · intro k kk0 kk1
    show Y 122 k = B (460 + k)
    rw [hY 122 (by omega) (by omega) (by omega), bfar _ (by omega)]
    exact t2 k kk0 kk1
  · rw [hY 120 (by omega) (by omega) (by omega), bfar _ (by omega)]
    exact t3
  · rw [bfar _ (by omega)]
    intro i i0 i1
    show Y 124 i = B (463 + i)
    rw [hY 124 (by omega) (by omega) (by omega), bfar _ (by omega)]
    exact t4 i i0 i1
  · rw [hY 120 (by omega) (by omega) (by omega), w1]
    exact t5
  · rw [w1]
    intro i i0 i1
    show Y 123 i = (wkA B).1 i
    rw [hY 123 (by omega) (by omega) (by omega), w2 i i0 i1]
    exact t6 i i0 i1
  · show Cls (Y 121)
    rw [hY1]
    refine Cls_frame hC (fun e e0 e1 => ?_)
    by_cases r : e = dv
    · right
      subst r
      obtain ⟨c1, c2, c3, c4, c5, c6, c7⟩ := hC e e0 e1
      have h0 := (sc_d t1 hd.1.1).1
      have h01 := hd.1.2
      unfold Clr
      rw [hg3, hgd 0 (by omega) (by omega) (by omega) (by omega), hgd 2 (by omega) (by omega) (by omega) (by omega), hgd 6 (by omega) (by omega) (by omega) (by omega), hgd 4 (by omega) (by omega) (by omega) (by omega), hgd 5 (by omega) (by omega) (by omega) (by omega)]
      refine ⟨c1, c2, c3, c4, fun hz => by omega, fun x x0 x1 => ?_, fun k k0 k1 => ?_⟩
      · rw [hgd (12 + x) (by omega) (by omega) (by omega) (by omega), hgd (15 + x) (by omega) (by omega) (by omega) (by omega)]
        exact c6 x x0 x1
      · rw [(hgw k k0 k1).1, (hgw k k0 k1).2]
        refine ⟨?_, hs, fun _ q => absurd rfl q⟩
        rcases hW k k0 k1 with ⟨w1, w2⟩ | ⟨w1, w2, w3, w4, w5, w6⟩ <;> omega
    · exact Or.inl (fun f => hgne e f r)
end DD
