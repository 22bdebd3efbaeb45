/-! AN ENDPOINT SEATED AND STARTED: the state is good again -/
section CJ
variable {im X Y : zM} {c c' c0 s sp A B w w' T W Am : Int → Int} {e f a b x y d k m n u un st bg en bu v sz ad dv nt i t o : Int} {z z0 M L : zSS} {p q r : Int → Bool}
/-- the table after dv was seated -/
def StB (A c : Int → Int) (a dv : Int) (B : Int → Int) : Prop := (∀ e f : Int, 0 ≤ e → e < 20 → 0 ≤ f → f < 23 → (f ≠ 4 ∨ e ≠ dv) → (f < 12 ∨ 14 < f ∨ A (23 * e + 5) ≤ f - 12 ∨ ¬ thM A e) → B (23 * e + f) = A (23 * e + f)) ∧ B (23 * dv + 4) = 1 ∧ (∀ e b : Int, thM A e → 0 ≤ b → b < A (23 * e + 5) → B (23 * e + (12 + b)) = gt c e (15 + b)) ∧ (∀ j : Int, 460 ≤ j → B j = A j) ∧ ∀ e : Int, 0 ≤ e → e < 20 → e ≠ dv → ¬ (onM A e ∧ A (23 * e + 2) = a) → Rw A B e
theorem sb_val : ∀ (m : Nat) (i : Int) (A : Int → Int) (j : Int), lp (sbF W dv) m i A j = if 23 * dv + (12 + i) ≤ j ∧ j < 23 * dv + (12 + i) + m then W (j - (23 * dv + 12)) else A j
  | 0, i, A, j => by
    rw [if_neg (by omega)]
    rfl
  | m + 1, i, A, j => by
    simp only [lp]
    rw [sb_val m (i + 1) (sbF W dv i A) j]
    by_cases q : 23 * dv + (12 + (i + 1)) ≤ j ∧ j < 23 * dv + (12 + (i + 1)) + m
    · rw [if_pos q, if_pos (by omega)]
    · rw [if_neg q]
      unfold sbF
      by_cases q2 : j = 23 * dv + (12 + i)
      · rw [q2, ups_at, if_pos (by omega)]
        congr 1
        omega
      · rw [ups_ne _ _ q2, if_neg (by omega)]
theorem sb_StB (hM : MG A) (hd : epM A dv ∧ ¬ onM A dv) (h : SeR A c0 a dv 2 c W Am) : StB A c a dv (sbA Am W dv) := by
  obtain ⟨h1, h2, h3, h4, h5, h6⟩ := h
  have hr := th_rg hd.1.1
  have hcl : ∀ t : Int, 0 ≤ t → t < 60 → deM t = t / 3 := fun t t0 t1 => if_pos t1
  have am : ∀ e f : Int, 0 ≤ e → e < 20 → 0 ≤ f → f < 23 → (f < 12 ∨ 14 < f ∨ A (23 * e + 5) ≤ f - 12 ∨ ¬ (onM A e ∧ A (23 * e + 2) = a)) → Am (23 * e + f) = A (23 * e + f) := fun e f e0 e1 f0 f1 hq => h4 _ (fun t t0 t1 to tb ta q => by
    have hdt := hcl t t0 t1
    unfold clT at q
    rw [hdt] at to tb ta
    have e2 : e = t / 3 := by omega
    have f2 : f = 12 + t % 3 := by omega
    subst e2
    rcases hq with r | r | r | r
    · omega
    · omega
    · omega
    · exact r ⟨to, ta⟩)
  have a5 : Am (23 * dv + 5) = A (23 * dv + 5) := am dv 5 hr.1 hr.2 (by omega) (by omega) (by omega)
  have hmn := MG_many hM hr
  have hv : ∀ j, sbA Am W dv j = if 23 * dv + 12 ≤ j ∧ j < 23 * dv + 12 + A (23 * dv + 5) then W (j - (23 * dv + 12)) else if j = 23 * dv + 4 then 1 else Am j := fun j => by
    unfold sbA
    rw [sb_val, a5]
    by_cases q : 23 * dv + 12 ≤ j ∧ j < 23 * dv + 12 + A (23 * dv + 5)
    · rw [if_pos q, if_pos (by omega)]
    · rw [if_neg q, if_neg (by omega)]
      rfl
  refine ⟨fun e f e0 e1 f0 f1 hq hq2 => ?_, ?_, fun e b he b0 b1 => ?_, fun j hj => ?_, fun e e0 e1 hne hq f f0 f1 => ?_⟩
  · have hnb : ¬ (23 * dv + 12 ≤ 23 * e + f ∧ 23 * e + f < 23 * dv + 12 + A (23 * dv + 5)) := fun r => by
      have : e = dv := by omega
      subst this
      rcases hq2 with s | s | s | s
      · omega
      · omega
      · omega
      · exact s hd.1.1
    rw [hv, if_neg hnb, if_neg (by omega)]
    refine am e f e0 e1 f0 f1 ?_
    rcases hq2 with s | s | s | s
    · exact Or.inl s
    · exact Or.inr (Or.inl s)
    · exact Or.inr (Or.inr (Or.inl s))
    · exact Or.inr (Or.inr (Or.inr (fun r => s r.1.1)))
  · rw [hv, if_neg (by omega), if_pos rfl]
  · have her := th_rg he
    have h5e := MG_many hM her
    by_cases q : e = dv
    · subst q
      rw [hv, if_pos (by omega)]
      have hk := (hM e her.1 her.2).2.2.2.2.2.1 b b0 (by omega)
      rw [h2 b b0 b1 (by omega)]
      congr 1
      omega
    · obtain ⟨d1, d2, d3, d4⟩ := de_ap her.1 her.2 b0 (show b < 3 by omega)
      have := h3 (3 * e + b) (by omega) d4 (by rw [d1]; exact he) (by rw [d1, d3]; exact b1) (by rw [d1]; exact q)
      rw [d1, d3] at this
      rw [hv, if_neg (by omega), if_neg (by omega), this]
      unfold clT
      congr 1
      omega
  · rw [hv, if_neg (by omega), if_neg (by omega)]
    exact h4 j (fun t t0 t1 _ _ _ q => by
      unfold clT at q
      omega)
  · rw [hv, if_neg (by omega), if_neg (by omega)]
    exact am e f e0 e1 f0 f1 (Or.inr (Or.inr (Or.inr hq)))
/-- a device that is ON now, or dv -/
theorem stb_on (hr : 0 ≤ dv ∧ dv < 20) (ht : thM A dv) (h : StB A c a dv B) : onM B e ↔ onM A e ∨ e = dv := by
  have h0 : ∀ e : Int, 0 ≤ e → e < 20 → B (23 * e + 0) = A (23 * e + 0) := fun e e0 e1 => h.1 e 0 e0 e1 (by omega) (by omega) (by omega) (by omega)
  constructor
  · rintro ⟨⟨e0, e1, e2⟩, e4⟩
    by_cases q : e = dv
    · exact Or.inr q
    · left
      rw [h0 e e0 (by omega)] at e2
      rw [h.1 e 4 e0 (by omega) (by omega) (by omega) (Or.inr q) (by omega)] at e4
      exact ⟨⟨e0, e1, e2⟩, e4⟩
  · rintro (⟨⟨e0, e1, e2⟩, e4⟩ | rfl)
    · refine ⟨⟨e0, e1, by rw [h0 e e0 (by omega)]; exact e2⟩, ?_⟩
      by_cases q : e = dv
      · rw [q]
        exact h.2.1
      · rw [h.1 e 4 e0 (by omega) (by omega) (by omega) (Or.inr q) (by omega)]
        exact e4
    · exact ⟨⟨ht.1, ht.2.1, by rw [h0 e hr.1 hr.2]; exact ht.2.2⟩, h.2.1⟩
theorem stb_good (g : gGd A) (hd : epM A dv ∧ ¬ onM A dv) (ha : A (23 * dv + 2) = a) (hbr : a = -1 ∨ onBr A a) (h : StB A c a dv B) (hG : ∀ k : Int, 0 ≤ k → k < 2 → GeoK A a dv k c) : gGd B := by
  have hr := th_rg hd.1.1
  have hM := g.1.1
  obtain ⟨b0, b4, b12, bfar, brw⟩ := id h
  have h4 : Sh4 A B := fun e f e0 e1 f0 f1 => b0 e f e0 e1 f0 (by omega) (by omega) (by omega)
  have hrow : ∀ e f : Int, 0 ≤ e → e < 20 → 0 ≤ f → f < 23 → f ≠ 4 → f < 12 ∨ 14 < f → B (23 * e + f) = A (23 * e + f) := fun e f e0 e1 f0 f1 f4 ff => b0 e f e0 e1 f0 f1 (Or.inl f4) (by omega)
  have hon : ∀ e, onM B e ↔ onM A e ∨ e = dv := fun e => stb_on hr hd.1.1 h
  -- where things stand
  have hInK : ∀ e b : Int, thM A e → 0 ≤ b → b < A (23 * e + 5) → (e = dv ∨ (onM A e ∧ A (23 * e + 2) = a)) → InK A a dv (A (23 * e + (6 + b))) (3 * e + b) ∧ 0 ≤ A (23 * e + (6 + b)) ∧ A (23 * e + (6 + b)) < 2 := fun e b he hb0 hb1 hq => by
    have her := th_rg he
    have h5e := MG_many hM her
    obtain ⟨d1, d2, d3, d4⟩ := de_ap her.1 her.2 hb0 (show b < 3 by omega)
    have hk := (hM e her.1 her.2).2.2.2.2.2.1 b hb0 (by omega)
    refine ⟨?_, by omega, by omega⟩
    rcases hq with q | ⟨q1, q2⟩
    · right
      rw [d1, d3, ← q]
      exact ⟨by omega, rfl, hb1, rfl⟩
    · left
      refine ⟨by omega, by omega, ⟨by rw [d1]; exact q1, ?_⟩, by rw [d1]; exact q2⟩
      rw [if_pos d4, d1, d3]
      exact ⟨hb1, rfl⟩
  have hpos : ∀ e b : Int, thM A e → 0 ≤ b → b < A (23 * e + 5) → (e = dv ∨ (onM A e ∧ A (23 * e + 2) = a)) → 0 ≤ gt c e (15 + b) ∧ gt c e (15 + b) ≤ 1024 := fun e b he hb0 hb1 hq => by
    have her := th_rg he
    have h5e := MG_many hM her
    obtain ⟨d1, d2, d3, d4⟩ := de_ap her.1 her.2 hb0 (show b < 3 by omega)
    obtain ⟨i1, i2, i3⟩ := hInK e b he hb0 hb1 hq
    have := (hG _ i2 i3).1 _ i1
    unfold posC at this
    rw [if_pos d4, d1, d3] at this
    omega
  have hMB : MG B := MG_frame hM (fun e e0 e1 => by
    by_cases q : thM A e ∧ (e = dv ∨ (onM A e ∧ A (23 * e + 2) = a))
    · right
      obtain ⟨m1, m2, m3, m4, m5, m6, m7, m8, m9, m10, m11⟩ := hM e e0 e1
      unfold MGr
      rw [hrow e 1 e0 e1 (by omega) (by omega) (by omega) (by omega), hrow e 2 e0 e1 (by omega) (by omega) (by omega) (by omega), hrow e 3 e0 e1 (by omega) (by omega) (by omega) (by omega), hrow e 5 e0 e1 (by omega) (by omega) (by omega) (by omega), hrow e 15 e0 e1 (by omega) (by omega) (by omega) (by omega), hrow e 16 e0 e1 (by omega) (by omega) (by omega) (by omega), hrow e 17 e0 e1 (by omega) (by omega) (by omega) (by omega), hrow e 18 e0 e1 (by omega) (by omega) (by omega) (by omega)]
      refine ⟨m1, m2, m3, ?_, m5, fun x x0 x1 => ?_, m7, m8, m9, m10, fun k k0 k1 => ?_⟩
      · by_cases r : e = dv
        · rw [r, b4]
          omega
        · rw [b0 e 4 e0 e1 (by omega) (by omega) (Or.inr r) (by omega)]
          exact m4
      · rw [hrow e (6 + x) e0 e1 (by omega) (by omega) (by omega) (by omega), hrow e (9 + x) e0 e1 (by omega) (by omega) (by omega) (by omega)]
        refine ⟨(m6 x x0 x1).1, (m6 x x0 x1).2.1, ?_⟩
        by_cases r : x < A (23 * e + 5)
        · rw [b12 e x q.1 x0 r]
          have := hpos e x q.1 x0 r q.2
          omega
        · rw [b0 e (12 + x) e0 e1 (by omega) (by omega) (by omega) (by omega)]
          exact (m6 x x0 x1).2.2
      · rw [hrow e (19 + k) e0 e1 (by omega) (by omega) (by omega) (by omega), hrow e (21 + k) e0 e1 (by omega) (by omega) (by omega) (by omega)]
        exact m11 k k0 k1
    · left
      by_cases r : e = dv
      · exact absurd ⟨by rw [r]; exact hd.1.1, Or.inl r⟩ q
      · exact brw e e0 e1 r (fun s => q ⟨s.1.1, Or.inr s⟩))
  have hbu : ∀ e, 0 ≤ e → e < 20 → buM B e = buM A e := fun e e0 e1 => by
    unfold buM
    rw [h4 e 2 e0 e1 (by omega) (by omega)]
  have hbus : ∀ u k : Int, 0 ≤ u ∧ u ≤ 20 → 0 ≤ k → k < 2 → beM B u k = beM A u k ∧ wiM B u k = wiM A u k ∧ fsM B u = fsM A u ∧ lsM B u = lsM A u := fun u k hu k0 k1 => by
    unfold beM wiM fsM lsM
    by_cases q : u = 20
    · simp only [if_pos q]
      exact ⟨trivial, bfar _ (by omega), trivial, trivial⟩
    · simp only [if_neg q]
      exact ⟨hrow u _ (by omega) (by omega) (by omega) (by omega) (by omega) (by omega), hrow u _ (by omega) (by omega) (by omega) (by omega) (by omega) (by omega), hrow u _ (by omega) (by omega) (by omega) (by omega) (by omega) (by omega), hrow u _ (by omega) (by omega) (by omega) (by omega) (by omega) (by omega)⟩
  have hrg : ∀ e, 0 ≤ e → e < 20 → 0 ≤ buM A e ∧ buM A e ≤ 20 := fun e e0 e1 => bu_rg hM ⟨e0, e1⟩
  have hit : ∀ t k : Int, 0 ≤ t → t < 80 → 0 ≤ k → k < 2 → itM B t k → (A (23 * deM t + 2) = a → InK A a dv k t ∧ bgT B t k = posC A c k t) ∧ (A (23 * deM t + 2) ≠ a → itM A t k ∧ bgT B t k = bgT A t k) ∧ wdT B t k = wdT A t k ∧ 0 ≤ deM t ∧ deM t < 20 := fun t k t0 t1 k0 k1 hi => by
    have hdt := de_rg ⟨t0, t1⟩
    obtain ⟨io, i2⟩ := hi
    have hw : wdT B t k = wdT A t k := by
      unfold wdT szT
      by_cases q : t < 60
      · rw [if_pos q, if_pos q]
        exact hrow (t / 3) _ (by omega) (by omega) (by omega) (by omega) (by omega) (by omega)
      · rw [if_neg q, if_neg q]
        exact hrow (t - 60) _ (by omega) (by omega) (by omega) (by omega) (by omega) (by omega)
    refine ⟨fun hq => ?_, fun hq => ?_, hw, hdt⟩
    · by_cases q : t < 60
      · have d1 : deM t = t / 3 := if_pos q
        rw [if_pos q, hrow (deM t) 5 hdt.1 hdt.2 (by omega) (by omega) (by omega) (by omega), hrow (deM t) (6 + t % 3) hdt.1 hdt.2 (by omega) (by omega) (by omega) (by omega)] at i2
        have hth : thM A (deM t) := by
          rcases (hon _).mp io with r | r
          · exact r.1
          · rw [r]
            exact hd.1.1
        have hj := hInK (deM t) (t % 3) hth (by omega) i2.1 (by
          rcases (hon _).mp io with r | r
          · exact Or.inr ⟨r, hq⟩
          · exact Or.inl r)
        rw [i2.2, show 3 * deM t + t % 3 = t by omega] at hj
        refine ⟨hj.1, ?_⟩
        have hb := b12 (deM t) (t % 3) hth (by omega) i2.1
        unfold bgT bsT posC
        rw [if_pos q, if_pos q, ← hb, d1]
      · rw [if_neg q, hrow (deM t) (21 + k) hdt.1 hdt.2 (by omega) (by omega) (by omega) (by omega)] at i2
        have hne : deM t ≠ dv := fun r => by
          have := g.1.2.2.2.2.2.2.2.2 dv k hd.1 k0 k1
          rw [r] at i2
          omega
        have hoA : onM A (deM t) := ((hon _).mp io).resolve_right hne
        refine ⟨Or.inl ⟨t0, t1, ⟨hoA, by rw [if_neg q]; exact i2⟩, hq⟩, ?_⟩
        unfold posC
        rw [if_neg q]
        unfold bgT
        rw [if_neg q, if_neg q]
        exact hrow (t - 60) _ (by omega) (by omega) (by omega) (by omega) (by omega) (by omega)
    · have hne : deM t ≠ dv := fun r => hq (by rw [r]; exact ha)
      have hoA : onM A (deM t) := ((hon _).mp io).resolve_right hne
      have hR := brw (deM t) hdt.1 hdt.2 hne (fun s => hq s.2)
      refine ⟨⟨hoA, ?_⟩, ?_⟩
      · split
        · rename_i q
          rw [if_pos q, hR 5 (by omega) (by omega), hR (6 + t % 3) (by omega) (by omega)] at i2
          exact i2
        · rename_i q
          rw [if_neg q, hR (21 + k) (by omega) (by omega)] at i2
          exact i2
      · unfold bgT bsT
        split
        · rename_i q
          have d1 : deM t = t / 3 := if_pos q
          have := hR (12 + t % 3) (by omega) (by omega)
          rw [d1] at this
          exact this
        · rename_i q
          exact hrow (t - 60) _ (by omega) (by omega) (by omega) (by omega) (by omega) (by omega)
  obtain ⟨g3, g4, g5, g6, g7, g8, g9⟩ := g.1.2.2
  refine ⟨gT_of h4 g.1 hMB (by rw [bfar _ (by omega)]; exact g3) (fun k k0 k1 => by rw [bfar _ (by omega)]; exact g4 k k0 k1) (fun e q => ?_) (fun e x q x0 x1 => ?_) (fun e k q k0 k1 => ?_), fun e q => ?_, fun e q q' => ?_, fun e q q' => ?_, fun e f hef q1 q2 q3 q4 q5 => ?_, fun t k t0 t1 k0 k1 hi => ?_, fun t o k t0 t1 o0 o1 hto k0 k1 hi1 hi2 hpp => ?_⟩
  · have hq := (Sh4_br h4).mp q
    rw [hrow e 5 hq.1.1 (th_rg hq.1).2 (by omega) (by omega) (by omega) (by omega)]
    exact g7 e hq
  · have hq := (Sh4_th h4).mp q
    have hqr := th_rg hq
    rw [hrow e 5 hqr.1 hqr.2 (by omega) (by omega) (by omega) (by omega)] at x1
    have h5e := MG_many hM hqr
    rw [hrow e (9 + x) hqr.1 hqr.2 (by omega) (by omega) (by omega) (by omega)]
    exact g8 e x hq x0 x1
  · have hq := (Sh4_ep h4).mp q
    have hqr := th_rg hq.1
    rw [hrow e (21 + k) hqr.1 hqr.2 (by omega) (by omega) (by omega) (by omega)]
    exact g9 e k hq k0 k1
  · have hqr := th_rg q.1
    rw [h4 e 2 hqr.1 hqr.2 (by omega) (by omega)]
    rcases (hon e).mp q with r | r
    · exact (g.2.1 e r).imp id (fun s => (hon _).mpr (Or.inl s))
    · rw [r, ha]
      exact hbr.imp id (fun s => (hon _).mpr (Or.inl s.1))
  · have hq := (Sh4_th h4).mp q
    have hqr := th_rg hq
    have hn : ¬ onM A e := fun s => q' ((hon e).mpr (Or.inl s))
    have hne : e ≠ dv := fun s => q' ((hon e).mpr (Or.inr s))
    have hR := brw e hqr.1 hqr.2 hne (fun s => hn s.1)
    obtain ⟨o1, o2, o3, o4⟩ := g.2.2.1 e hq hn
    refine ⟨?_, ?_, fun x x0 x1 => ?_, fun k k0 k1 => ⟨?_, ?_⟩⟩
    · rw [hR 17 (by omega) (by omega)]; exact o1
    · rw [hR 18 (by omega) (by omega)]; exact o2
    · rw [hR (12 + x) (by omega) (by omega)]; exact o3 x x0 x1
    · rw [hR (19 + k) (by omega) (by omega)]; exact (o4 k k0 k1).1
    · rw [hR (21 + k) (by omega) (by omega)]; exact (o4 k k0 k1).2
  · have hqr := th_rg q.1
    rw [hrow e 1 hqr.1 hqr.2 (by omega) (by omega) (by omega) (by omega)] at q'
    have hoA : onM A e := ((hon e).mp q).resolve_right (fun s => by
      have := hd.1.2
      rw [s] at q'
      omega)
    have hb := hbus (buM A e) 0 (hrg e hqr.1 hqr.2) (by omega) (by omega)
    rw [hbu e hqr.1 hqr.2, hb.2.2.1, hb.2.2.2, hrow e 17 hqr.1 hqr.2 (by omega) (by omega) (by omega) (by omega), hrow e 18 hqr.1 hqr.2 (by omega) (by omega) (by omega) (by omega)]
    exact g.2.2.2.1 e hoA q'
  · have her := th_rg q1.1
    have hfr := th_rg q3.1
    rw [hrow e 1 her.1 her.2 (by omega) (by omega) (by omega) (by omega)] at q2
    rw [hrow f 1 hfr.1 hfr.2 (by omega) (by omega) (by omega) (by omega)] at q4
    have hoe : onM A e := ((hon e).mp q1).resolve_right (fun s => by
      have := hd.1.2
      rw [s] at q2
      omega)
    have hof : onM A f := ((hon f).mp q3).resolve_right (fun s => by
      have := hd.1.2
      rw [s] at q4
      omega)
    rw [hrow e 2 her.1 her.2 (by omega) (by omega) (by omega) (by omega), hrow f 2 hfr.1 hfr.2 (by omega) (by omega) (by omega) (by omega)] at q5
    rw [hrow e 17 her.1 her.2 (by omega) (by omega) (by omega) (by omega), hrow e 18 her.1 her.2 (by omega) (by omega) (by omega) (by omega), hrow f 17 hfr.1 hfr.2 (by omega) (by omega) (by omega) (by omega), hrow f 18 hfr.1 hfr.2 (by omega) (by omega) (by omega) (by omega)]
    exact g.2.2.2.2.1 e f hef hoe q2 hof q4 q5
  · obtain ⟨i1, i2, i3, i4⟩ := hit t k t0 t1 k0 k1 hi
    have hb := hbus (buM A (deM t)) k (hrg _ i4.1 i4.2) k0 k1
    rw [hbu _ i4.1 i4.2, hb.1, hb.2.1, i3]
    by_cases q : A (23 * deM t + 2) = a
    · obtain ⟨j1, j2⟩ := i1 q
      have hbf := (bu_iff hM i4 (bus_rg hbr)).mpr q
      rw [j2, hbf]
      obtain ⟨p1, p2, p3, p4, p5, p6⟩ := (hG k k0 k1).1 t j1
      exact ⟨p6, p2, p3, p4, p5⟩
    · obtain ⟨j1, j2⟩ := i2 q
      rw [j2]
      exact g.2.2.2.2.2.1 t k t0 t1 k0 k1 j1
  · obtain ⟨i1, i2, i3, i4⟩ := hit t k t0 t1 k0 k1 hi1
    obtain ⟨i1', i2', i3', i4'⟩ := hit o k o0 o1 k0 k1 hi2
    rw [i3, i3']
    rw [h4 _ 2 i4.1 i4.2 (by omega) (by omega), h4 _ 2 i4'.1 i4'.2 (by omega) (by omega)] at hpp
    by_cases q : A (23 * deM t + 2) = a
    · obtain ⟨j1, j2⟩ := i1 q
      obtain ⟨j1', j2'⟩ := i1' (by rw [← hpp]; exact q)
      rw [j2, j2']
      exact (hG k k0 k1).2 t o j1 j1' hto
    · obtain ⟨j1, j2⟩ := i2 q
      obtain ⟨j1', j2'⟩ := i2' (by rw [← hpp]; exact q)
      rw [j2, j2']
      exact g.2.2.2.2.2.2 t o k t0 t1 o0 o1 hto k0 k1 j1 j1' hpp
end CJ
