/-! WHAT MAY MOVE, in the reference; SETTLING in the class -/
section CE
variable {im X Y : zM} {c c' c0 s sp A B w w' T : Int → Int} {e f a b x y d k m n u un st bg en bu v sz ad dv nt i : Int} {z z0 M L : zSS} {p q r : Int → Bool}
theorem lmA_sp : ∀ (m : Nat) (i : Int) (y : (Int → Int) × Int), 0 ≤ y.2 → lsO (lp (lmA A d k) m i y).1 (lp (lmA A d k) m i y).2 = lsO y.1 y.2 ++ (rgL i m).flatMap (fun x => if A (23 * d + (6 + x)) = k then [3 * d + x] else []) ∧ 0 ≤ (lp (lmA A d k) m i y).2
  | 0, i, y, h => by
    simp only [lp, rgL, List.flatMap_nil, List.append_nil]
    exact ⟨trivial, h⟩
  | m + 1, i, y, h => by
    simp only [lp, rgL, List.flatMap_cons]
    by_cases q : A (23 * d + (6 + i)) = k
    · have ec : lmA A d k i y = (ups y.1 y.2 (3 * d + i), y.2 + 1) := if_pos q
      obtain ⟨h1, h2⟩ := lmA_sp m (i + 1) (lmA A d k i y) (by rw [ec]; dsimp only; omega)
      refine ⟨?_, h2⟩
      rw [h1, ec, if_pos q]
      dsimp only
      rw [lsO_push h, List.append_assoc]
    · have ec : lmA A d k i y = y := if_neg q
      obtain ⟨h1, h2⟩ := lmA_sp m (i + 1) (lmA A d k i y) (by rw [ec]; exact h)
      refine ⟨?_, h2⟩
      rw [h1, ec, if_neg q, List.nil_append]
def lmL (A : Int → Int) (a k sl : Int) : List Int := if 0 ≤ pM A a sl ∧ onM A (pM A a sl) then apsR A (pM A a sl) k else []
theorem lmS_sp : ∀ (m : Nat) (i : Int) (y : (Int → Int) × Int), 0 ≤ y.2 → lsO (lp (lmS A bu k) m i y).1 (lp (lmS A bu k) m i y).2 = lsO y.1 y.2 ++ (rgL i m).flatMap (lmL A (bnM bu) k) ∧ 0 ≤ (lp (lmS A bu k) m i y).2
  | 0, i, y, h => by
    simp only [lp, rgL, List.flatMap_nil, List.append_nil]
    exact ⟨trivial, h⟩
  | m + 1, i, y, h => by
    simp only [lp, rgL, List.flatMap_cons]
    by_cases q : 0 ≤ pM A (bnM bu) i ∧ onM A (pM A (bnM bu) i)
    · have ec : lmS A bu k i y = lmD A (pM A (bnM bu) i) k y := if_pos q
      obtain ⟨g1, g2⟩ := lmA_sp (A := A) (d := pM A (bnM bu) i) (k := k) (A (23 * pM A (bnM bu) i + 5)).toNat 0 y h
      obtain ⟨h1, h2⟩ := lmS_sp m (i + 1) (lmS A bu k i y) (by rw [ec]; exact g2)
      refine ⟨?_, h2⟩
      rw [h1, ec]
      have e2 : lmL A (bnM bu) k i = apsR A (pM A (bnM bu) i) k := if_pos q
      rw [e2, ← List.append_assoc]
      exact congrArg (· ++ _) g1
    · have ec : lmS A bu k i y = y := if_neg q
      obtain ⟨h1, h2⟩ := lmS_sp m (i + 1) (lmS A bu k i y) (by rw [ec]; exact h)
      refine ⟨?_, h2⟩
      have e2 : lmL A (bnM bu) k i = [] := if_neg q
      rw [h1, ec, e2, List.nil_append]
theorem bn_bf (ha : a = -1 ∨ onBr A a) : bnM (bfM a) = a := by
  unfold bnM bfM
  rcases ha with q | q
  · rw [if_pos q, if_pos rfl, q]
  · have := th_rg q.1.1
    rw [if_neg (show ¬ a = -1 by omega), if_neg (show ¬ a = 20 by omega)]
/-- both sides' rows of what may move are one -/
theorem lm_eq (hR : RC A c0 w n a dv sp) (hk : 0 ≤ k ∧ k < 2) (Mi : Int → Int) {nm : Int} {τM : Int → Int} (hn : 0 ≤ nm) (hτ : mvL c0 w n a k = (rgL 0 nm.toNat).map τM) : (lmM A Mi (bfM a) k).2 = nm ∧ ∀ j : Int, 0 ≤ j → j < nm → (lmM A Mi (bfM a) k).1 j = τM j := by
  obtain ⟨g, hc, hC, hF, ha, hd, hsp⟩ := id hR
  have hs := gT_S g.1
  obtain ⟨h1, h2⟩ := lmS_sp (A := A) (bu := bfM a) (k := k) 8 0 (Mi, 0) (Int.le_refl _)
  have e0 : lsO ((Mi, 0) : (Int → Int) × Int).1 ((Mi, 0) : (Int → Int) × Int).2 = [] := rfl
  rw [e0, List.nil_append, bn_bf ha] at h1
  have hin : ∀ sl x, x ∈ lmL A a k sl → ThN A a k x ∧ x < 60 ∧ A (23 * deM x + 3) = sl := fun sl x hx => by
    unfold lmL at hx
    split at hx
    · rename_i q
      rcases pM_cases A a sl with r | ⟨r1, r2, r3⟩
      · omega
      · have hr := th_rg r1
        have h5 := MG_many g.1.1 hr
        obtain ⟨b, b0, b1, b2, rfl⟩ := (mem_apsR g.1.1 hr).mp hx
        obtain ⟨d1, d2, d3, d4⟩ := de_ap hr.1 hr.2 b0 (show b < 3 by omega)
        refine ⟨⟨by omega, by omega, ⟨by rw [d1]; exact q.2, ?_⟩, by rw [d1]; exact r2⟩, d4, by rw [d1]; exact r3⟩
        rw [if_pos d4, d1, d3]
        exact ⟨b1, b2⟩
    · exact absurd hx List.not_mem_nil
  have e1 : (rgL 0 8).flatMap (lmL A a k) = mvL c0 w n a k := by
    refine pw_uniq (k := raM A) _ _ ?_ (pw_mvL hR) (fun x => ?_)
    · refine pw_flat _ (fun sl _ => ?_) ?_
      · unfold lmL
        split
        · rename_i q
          rcases pM_cases A a sl with r | ⟨r1, r2, r3⟩
          · omega
          · have hr := th_rg r1
            have h5 := MG_many g.1.1 hr
            unfold apsR
            refine pw_flat _ (fun x _ => ?_) ?_
            · split
              · exact List.pairwise_singleton ..
              · exact List.Pairwise.nil
            · refine List.Pairwise.imp_of_mem ?_ (pw_rgL (A (23 * pM A a sl + 5)).toNat 0)
              intro x y hx hy hxy u hu v hv
              have hx := (mem_rgL _ _ _).mp hx
              have hy := (mem_rgL _ _ _).mp hy
              have eu : u = 3 * pM A a sl + x := by
                split at hu
                · exact List.mem_singleton.mp hu
                · exact absurd hu List.not_mem_nil
              have ev : v = 3 * pM A a sl + y := by
                split at hv
                · exact List.mem_singleton.mp hv
                · exact absurd hv List.not_mem_nil
              obtain ⟨a1, a2, a3, a4⟩ := de_ap hr.1 hr.2 hx.1 (show x < 3 by omega)
              obtain ⟨b1, b2, b3, b4⟩ := de_ap hr.1 hr.2 hy.1 (show y < 3 by omega)
              rw [eu, ev]
              unfold raM
              rw [a1, b1, a3, b3, if_pos a4, if_pos b4]
              omega
        · exact List.Pairwise.nil
      · refine List.Pairwise.imp ?_ (pw_rgL 8 0)
        intro s1 s2 hss u hu v hv
        obtain ⟨u1, u2, u3⟩ := hin s1 u hu
        obtain ⟨v1, v2, v3⟩ := hin s2 v hv
        have ru := ra_rg (x := u) hs u1.2.2.1.1.1 u1.1
        have rv := ra_rg (x := v) hs v1.2.2.1.1.1 v1.1
        omega
    · rw [mem_mvL hR hk, List.mem_flatMap]
      constructor
      · rintro ⟨sl, -, hx⟩
        have := hin sl x hx
        exact ⟨this.1, this.2.1⟩
      · rintro ⟨⟨t0, t1, ⟨to, ti⟩, tb⟩, t6⟩
        have hr := th_rg to.1
        have hsl := sl_rg hs to.1
        refine ⟨A (23 * deM x + 3), (mem_rgL _ _ _).mpr ⟨hsl.1, by omega⟩, ?_⟩
        have hp : pM A a (A (23 * deM x + 3)) = deM x := by
          rw [← tb]
          exact pM_of hs to.1
        unfold lmL
        rw [hp, if_pos ⟨hr.1, to⟩]
        rw [if_pos t6] at ti
        have hdt : deM x = x / 3 := if_pos t6
        exact (mem_apsR g.1.1 hr).mpr ⟨x % 3, by omega, ti.1, ti.2, by omega⟩
  rw [e1, hτ] at h1
  obtain ⟨i1, i2⟩ := lsO_inj (o' := τM) (n' := nm) h2 hn h1
  exact ⟨i1, fun j j0 j1 => i2 j j0 (by
    have : (lmM A Mi (bfM a) k).2 = nm := i1
    omega)⟩
/-- settling: each where it was laid -/
theorem st_sp {τ : Int → Int} {N : Int} (hL : ∀ j : Int, 0 ≤ j → j < N → L.1 j = deM (τ j) ∧ L.2.1 j = apV (τ j)) (hτ : ∀ j : Int, 0 ≤ j → j < N → 0 ≤ τ j ∧ τ j < 60) (hinj : ∀ i j : Int, 0 ≤ i → i < j → j < N → τ i ≠ τ j) : ∀ (m : Nat) (i : Int) (y : Int × (Int → Int)), 0 ≤ i → i + m = N → (∀ j : Int, i ≤ j → j < N → gt (lp (stf L dv) m i y).2 (deM (τ j)) (15 + τ j % 3) = L.2.2.2.2.1 j) ∧ (∀ e f : Int, (∀ j : Int, i ≤ j → j < N → ¬ (e = deM (τ j) ∧ f = 15 + τ j % 3)) → gt (lp (stf L dv) m i y).2 e f = gt y.2 e f) ∧ (lp (stf L dv) m i y).1 = y.1 + smL (fun j => if deM (τ j) ≠ dv ∧ gt y.2 (deM (τ j)) (15 + τ j % 3) ≠ L.2.2.2.2.1 j then 1 else 0) (rgL i m)
  | 0, i, y, i0, iN => ⟨fun j j0 j1 => by omega, fun _ _ _ => rfl, by simp only [lp, rgL, smL]; omega⟩
  | m + 1, i, y, i0, iN => by
    simp only [lp, rgL, smL]
    obtain ⟨l1, l2⟩ := hL i i0 (by omega)
    obtain ⟨t0, t1⟩ := hτ i i0 (by omega)
    have ea : apV (τ i) = τ i % 3 := if_pos t1
    have hdi : 0 ≤ deM (τ i) ∧ deM (τ i) < 20 := de_rg ⟨t0, by omega⟩
    rw [ea] at l2
    obtain ⟨h1, h2, h3⟩ := st_sp hL hτ hinj m (i + 1) (stf L dv i y) (by omega) (by omega)
    have e1 : (stf L dv i y).2 = stc y.2 (deM (τ i)) (15 + τ i % 3) (L.2.2.2.2.1 i) := by
      unfold stf
      dsimp only
      rw [l1, l2]
    have e2 : (stf L dv i y).1 = y.1 + (if deM (τ i) ≠ dv ∧ gt y.2 (deM (τ i)) (15 + τ i % 3) ≠ L.2.2.2.2.1 i then 1 else 0) := by
      unfold stf
      dsimp only
      rw [l1, l2]
      split <;> omega
    have hne : ∀ j : Int, i + 1 ≤ j → j < N → ¬ (deM (τ i) = deM (τ j) ∧ 15 + τ i % 3 = 15 + τ j % 3) := fun j j0 j1 q => by
      have := hinj i j i0 (by omega) j1
      have hj := hτ j (by omega) j1
      have d1 : deM (τ i) = τ i / 3 := if_pos t1
      have d2 : deM (τ j) = τ j / 3 := if_pos hj.2
      omega
    have hgt : ∀ e f, gt (stf L dv i y).2 e f = if e = deM (τ i) ∧ f = 15 + τ i % 3 then L.2.2.2.2.1 i else gt y.2 e f := fun e f => by
      rw [e1, gt_stc]
      by_cases q : e = deM (τ i) ∧ f = 15 + τ i % 3
      · rw [if_pos q, if_pos ⟨q.1, q.2, by omega, by omega, by omega, by omega⟩]
      · rw [if_neg q, if_neg (fun r => q ⟨r.1, r.2.1⟩)]
    refine ⟨fun j j0 j1 => ?_, fun e f hj => ?_, ?_⟩
    · by_cases q : j = i
      · rw [q, h2 _ _ (fun j' j0' j1' => hne j' j0' j1'), hgt, if_pos ⟨rfl, rfl⟩]
      · exact h1 j (by omega) j1
    · rw [h2 e f (fun j' j0' j1' => hj j' (by omega) j1'), hgt, if_neg (hj i (Int.le_refl _) (by omega))]
    · rw [h3, e2]
      have : smL (fun j => if deM (τ j) ≠ dv ∧ gt (stf L dv i y).2 (deM (τ j)) (15 + τ j % 3) ≠ L.2.2.2.2.1 j then 1 else 0) (rgL (i + 1) m) = smL (fun j => if deM (τ j) ≠ dv ∧ gt y.2 (deM (τ j)) (15 + τ j % 3) ≠ L.2.2.2.2.1 j then 1 else 0) (rgL (i + 1) m) := smL_congr _ (fun j hj => by
        have hj := (mem_rgL _ _ _).mp hj
        have eg : gt (stf L dv i y).2 (deM (τ j)) (15 + τ j % 3) = gt y.2 (deM (τ j)) (15 + τ j % 3) := by
          rw [hgt]
          exact if_neg (show ¬ (deM (τ j) = deM (τ i) ∧ 15 + τ j % 3 = 15 + τ i % 3) from fun q => hne j hj.1 (by omega) ⟨q.1.symm, q.2.symm⟩)
        rw [eg])
      rw [this]
      omega
/-- stretches laid down stay apart and within -/
def Geo (bg en : Int) (l : List (Int × Int)) : Prop := List.Pairwise (fun p q => p.1 + p.2 ≤ q.1 ∨ q.1 + q.2 ≤ p.1) l ∧ ∀ p ∈ l, bg ≤ p.1 ∧ p.1 + p.2 ≤ en ∧ 0 ≤ p.2
end CE
