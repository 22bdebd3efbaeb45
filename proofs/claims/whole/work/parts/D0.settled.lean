/-! AN ENDPOINT SEATED AND STARTED: class and reference stand alike -/
section DA
variable {im X Y : zM} {c c' c0 s sp A B w w' T W Am : Int → Int} {e f a b x y d k m n u un st bg en bu v sz ad dv nt i t o : Int} {z z0 M L : zSS} {p q r : Int → Bool}
theorem stb_GdT (hT : GdT gGd X 120 A) (hd : epM A dv ∧ ¬ onM A dv) (ha : A (23 * dv + 2) = a) (hbr : a = -1 ∨ onBr A a) (h : SeR A (X 121) a dv 2 c W Am) (hY : ∀ p : Nat, 120 ≤ p → p ≤ 124 → p ≠ 121 → Y p = X p) (hY1 : Y 121 = stc c dv 3 1) : GdT gGd Y 120 (sbA Am W dv) := by
  obtain ⟨⟨t1, t2, t3, t4, t5, t6⟩, g, hC⟩ := hT
  have t1 : SimC (X 121) A := t1
  have hC : Cls (X 121) := hC
  have hM := g.1.1
  have hr := th_rg hd.1.1
  have hB := sb_StB hM hd h
  obtain ⟨⟨k1, k2⟩, -, -, -, k5, k6⟩ := h
  generalize sbA Am W dv = B at *
  have hg := stb_good g hd ha hbr hB (fun k k0 k1 => k6 k k0 k1)
  obtain ⟨b0, b4, b12, bfar, brw⟩ := id hB
  have h4 : Sh4 A B := fun e f e0 e1 f0 f1 => b0 e f e0 e1 f0 (by omega) (by omega) (by omega)
  have hrow : ∀ e f : Int, 0 ≤ e → e < 20 → 0 ≤ f → f < 23 → f ≠ 4 → f < 12 ∨ 14 < f → B (23 * e + f) = A (23 * e + f) := fun e f e0 e1 f0 f1 f4 ff => b0 e f e0 e1 f0 f1 (Or.inl f4) (by omega)
  obtain ⟨w1, w2⟩ := wk_Sh4 h4 (gT_S g.1)
  have hgt : ∀ e f : Int, (f < 15 ∨ 17 < f) → (f ≠ 3 ∨ e ≠ dv) → gt (stc c dv 3 1) e f = gt (X 121) e f := fun e f hf hq => by
    rw [gt_stc, if_neg (by omega)]
    exact k1 e f hf
  have hgb : ∀ e b : Int, 0 ≤ b → gt (stc c dv 3 1) e (15 + b) = gt c e (15 + b) := fun e b b0' => by
    rw [gt_stc, if_neg (by omega)]
  have hgd : gt (stc c dv 3 1) dv 3 = 1 := by
    rw [gt_stc, if_pos ⟨rfl, rfl, hr.1, hr.2, by omega, by omega⟩]
  refine ⟨⟨?_, ?_, ?_, ?_, ?_, ?_⟩, hg, ?_⟩
  · show SimC (Y 121) B
    rw [hY1]
    intro e e0 e1
    obtain ⟨q1, q2, q3, q4⟩ := t1 e e0 e1
    rw [hrow e 1 e0 e1 (by omega) (by omega) (by omega) (by omega), hrow e 0 e0 e1 (by omega) (by omega) (by omega) (by omega)]
    refine ⟨q1, ?_, fun hth => ?_, fun hth => ?_⟩
    · by_cases r : e = dv
      · rw [r, b4]
        exact Or.inr rfl
      · rw [b0 e 4 e0 e1 (by omega) (by omega) (Or.inr r) (by omega)]
        exact q2
    · obtain ⟨d1, d2, d3, d4, d5, d6, d7, d8, d9⟩ := q3 hth
      have ht : thM A e := ⟨e0, by omega, hth⟩
      have h5e := MG_many hM (dv := e) ⟨e0, e1⟩
      unfold SimD
      rw [hrow e 1 e0 e1 (by omega) (by omega) (by omega) (by omega), hrow e 2 e0 e1 (by omega) (by omega) (by omega) (by omega), hrow e 3 e0 e1 (by omega) (by omega) (by omega) (by omega), hrow e 5 e0 e1 (by omega) (by omega) (by omega) (by omega), hrow e 15 e0 e1 (by omega) (by omega) (by omega) (by omega), hrow e 16 e0 e1 (by omega) (by omega) (by omega) (by omega), hrow e 17 e0 e1 (by omega) (by omega) (by omega) (by omega), hrow e 18 e0 e1 (by omega) (by omega) (by omega) (by omega), hgt e 0 (by omega) (by omega), hgt e 1 (by omega) (by omega), hgt e 2 (by omega) (by omega), hgt e 6 (by omega) (by omega), hgt e 4 (by omega) (by omega), hgt e 5 (by omega) (by omega), hgt e 7 (by omega) (by omega), hgt e 8 (by omega) (by omega)]
      refine ⟨d1, d2, d3, ?_, d5, d6, d7, fun x x0 x1 => ?_, fun hb => ⟨(d9 hb).1, fun ho => ?_⟩⟩
      · by_cases r : e = dv
        · rw [r, b4, hgd]
        · rw [b0 e 4 e0 e1 (by omega) (by omega) (Or.inr r) (by omega), hgt e 3 (by omega) (Or.inr r)]
          exact d4
      · obtain ⟨a1, a2, a3⟩ := d8 x x0 x1
        rw [hgt e (9 + x) (by omega) (by omega), hgt e (12 + x) (by omega) (by omega), hgb e x x0, hrow e (6 + x) e0 e1 (by omega) (by omega) (by omega) (by omega), hrow e (9 + x) e0 e1 (by omega) (by omega) (by omega) (by omega), b12 e x ht x0 x1]
        exact ⟨a1, a2, rfl⟩
      · have hne : e ≠ dv := fun s => by
          have := hd.1.2
          rw [s] at hb
          omega
        rw [b0 e 4 e0 e1 (by omega) (by omega) (Or.inr hne) (by omega)] at ho
        obtain ⟨r1, r2, r3⟩ := (d9 hb).2 ho
        refine ⟨r1, r2, fun k kk0 kk1 => ?_⟩
        rw [hgt e (18 + k) (by omega) (by omega), hgt e (20 + k) (by omega) (by omega), hrow e (19 + k) e0 e1 (by omega) (by omega) (by omega) (by omega), hrow e (21 + k) e0 e1 (by omega) (by omega) (by omega) (by omega)]
        exact r3 k kk0 kk1
    · have hne : e ≠ dv := fun s => hth (by rw [s]; exact hd.1.1.2.2)
      rw [hgt e 0 (by omega) (by omega), hgt e 3 (by omega) (Or.inr hne)]
      exact q4 hth
  · intro k kk0 kk1
    show Y 122 k = B (460 + k)
    rw [hY 122 (by omega) (by omega) (by omega), bfar _ (by omega)]
    exact t2 k kk0 kk1
  · rw [hY 120 (by omega) (by omega) (by omega), bfar _ (by omega)]
    exact t3
  · rw [bfar _ (by omega)]
    intro i i0 i1
    show Y 124 i = B (463 + i)
    rw [hY 124 (by omega) (by omega) (by omega), bfar _ (by omega)]
    exact t4 i i0 i1
  · rw [hY 120 (by omega) (by omega) (by omega), w1]
    exact t5
  · rw [w1]
    intro i i0 i1
    show Y 123 i = (wkA B).1 i
    rw [hY 123 (by omega) (by omega) (by omega), w2 i i0 i1]
    exact t6 i i0 i1
  · show Cls (Y 121)
    rw [hY1]
    intro e e0 e1
    obtain ⟨c1, c2, c3, c4, c5, c6, c7⟩ := hC e e0 e1
    rw [hgt e 6 (by omega) (by omega), hgt e 4 (by omega) (by omega), hgt e 5 (by omega) (by omega), hgt e 2 (by omega) (by omega), hgt e 0 (by omega) (by omega)]
    refine ⟨c1, c2, c3, c4, fun hz => ?_, fun x x0 x1 => ?_, fun k kk0 kk1 => ?_⟩
    · have hne : e ≠ dv := fun s => by
        have := (sc_d t1 hd.1.1).1
        have := hd.1.2
        rw [s] at hz
        omega
      rw [hgt e 3 (by omega) (Or.inr hne)]
      exact c5 hz
    · obtain ⟨a1, a2, a3⟩ := c6 x x0 x1
      rw [hgt e (12 + x) (by omega) (by omega), hgb e x x0]
      refine ⟨a1, ?_, a3⟩
      obtain ⟨d1, d2, d3, d4⟩ := de_ap e0 e1 x0 x1
      by_cases hq : ∃ k' : Int, 0 ≤ k' ∧ k' < 2 ∧ InK A a dv k' (3 * e + x)
      · obtain ⟨k', kk0, kk1, hi⟩ := hq
        have := (k6 k' kk0 kk1).1 _ hi
        unfold posC at this
        rw [if_pos d4, d1, d3] at this
        have hwd : 0 ≤ wdT A (3 * e + x) k' := by omega
        omega
      · have := k5 (3 * e + x) (by omega) d4 (fun k' kk0 kk1 hi => hq ⟨k', kk0, kk1, hi⟩)
        rw [d1, d3] at this
        rw [this]
        exact a2
    · rw [hgt e (18 + k) (by omega) (by omega), hgt e (20 + k) (by omega) (by omega)]
      have h7 := c7 k kk0 kk1
      refine ⟨h7.1, h7.2.1, fun r1 r2 => ?_⟩
      by_cases r : e = dv
      · rw [r, hgd] at r2
        exact absurd rfl r2
      · rw [hgt e 3 (by omega) (Or.inr r)] at r2
        exact h7.2.2 r1 r2
end DA
