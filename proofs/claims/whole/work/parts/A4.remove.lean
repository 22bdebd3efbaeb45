/-! A DEVICE IS UNPLUGGED with what is behind it; the step unplug -/
section BE
variable {im X Y T : zM} {c c' s A B w : Int → Int} {e f a b x d sl wh nu un ty k kd dv m n K : Int} {p q r : Int → Bool}
theorem ke_par (hs : gS A) (ht : thM A e) (hp : brM A (A (23 * e + 2))) : keM A (A (23 * e + 2)) < keM A e := by
  rcases ke_rec hs ht with ⟨q, -⟩ | ⟨-, -, q⟩
  · exact absurd hp.1.1 (by omega)
  · have hr := sl_rg hs ht
    have hu : 1 ≤ uN A e := by have := uN_cases A e; omega
    have : 1 * 1 ≤ uN A e * (A (23 * e + 3) + 1) := Int.mul_le_mul hu (by omega) (by omega) (by omega)
    omega
/-- behind what, where the way up still stands -/
theorem bh_eqK (hs : gS A) (hK : ∀ x, thM A x → keM A x < K → gt s x 1 = A (23 * x + 2)) : ∀ (n : Nat) (a : Int), (a = -1 ∨ (thM A a ∧ keM A a < K)) → bhf s b n a = abM A n a b
  | 0, _, _ => rfl
  | n + 1, a, ha => by
    simp only [bhf, abM]
    by_cases q : a = -1
    · rw [if_pos q, if_pos (by omega)]
    · obtain ⟨ht, hk⟩ := ha.resolve_left q
      rw [if_neg q, if_neg (show ¬ a < 0 by have := ht.1; omega), hK a ht hk, bh_eqK hs hK n _ ((hs.2.1 a ht).imp id (fun r => ⟨r.1, by have := ke_par hs ht r; omega⟩))]
      by_cases q2 : a = b
      · rw [if_pos q2, decide_eq_true q2.symm]
        rfl
      · rw [if_neg q2, decide_eq_false (fun r => q2 r.symm)]
        rfl
theorem gt_zrw (hd : 0 ≤ d ∧ d < 20) (hf : 0 ≤ f ∧ f < 24) : gt (zrw c d 0) e f = if e = d then 0 else gt c e f := by
  unfold zrw gt
  by_cases hr : 0 ≤ e ∧ e < 20 ∧ 0 ≤ f ∧ f < 24
  · simp only [if_pos hr]
    (repeat' split) <;> first | rfl | omega
  · simp only [if_neg hr]
    rw [if_neg (by omega)]
theorem gt_rg (hf : ¬ (0 ≤ f ∧ f < 24)) : gt c e f = -1 := by
  unfold gt
  exact if_neg (fun q => hf ⟨q.2.2.1, q.2.2.2⟩)
theorem rmc_loop (hc : SimW c A) (hs : gS A) (hn : n ≤ 20) (h1 : ∀ i : Int, 0 ≤ i → i < n → thM A (w i)) (h2 : ∀ i j : Int, 0 ≤ i → i < j → j < n → keM A (w i) < keM A (w j)) : ∀ (m : Nat) (s : Int → Int), (m : Int) ≤ n → (∀ e, (∃ j : Int, m ≤ j ∧ j < n ∧ w j = e ∧ (e = dv ∨ bhM A e dv = true)) → ∀ f : Int, 0 ≤ f → f < 24 → gt s e f = 0) → (∀ e, ¬ (∃ j : Int, m ≤ j ∧ j < n ∧ w j = e ∧ (e = dv ∨ bhM A e dv = true)) → ∀ f : Int, gt s e f = gt c e f) → (∀ e, (∃ j : Int, 0 ≤ j ∧ j < n ∧ w j = e ∧ (e = dv ∨ bhM A e dv = true)) → ∀ f : Int, 0 ≤ f → f < 24 → gt (lpd (rmf w n dv) m s) e f = 0) ∧ (∀ e, ¬ (∃ j : Int, 0 ≤ j ∧ j < n ∧ w j = e ∧ (e = dv ∨ bhM A e dv = true)) → ∀ f : Int, gt (lpd (rmf w n dv) m s) e f = gt c e f) := by
  intro m
  induction m with
  | zero => exact fun s _ i1 i2 => ⟨i1, i2⟩
  | succ m ih =>
    intro s hm i1 i2
    simp only [lpd]
    have hwk : wka w n (m : Int) = w m := by
      unfold wka
      rw [if_pos ⟨by omega, by omega, by omega⟩]
    have ht := h1 m (by omega) (by omega)
    have hr := th_rg ht
    have hK : ∀ x, thM A x → keM A x < keM A (w m) + 1 → gt s x 1 = A (23 * x + 2) := fun x hx hk => by
      rw [i2 x (fun ⟨j, j0, j1, j2, _⟩ => by
        have := h2 m j (by omega) (by omega) j1
        rw [j2] at this
        omega)]
      exact ((hc x).2.2 hx).1
    have hb : bhB s (w m) dv = bhM A (w m) dv := by
      show bhf s dv 4 (gt s (w m) 1) = abM A 4 (A (23 * w m + 2)) dv
      rw [hK _ ht (by omega)]
      exact bh_eqK hs hK 4 _ ((hs.2.1 _ ht).imp id (fun r => ⟨r.1, by have := ke_par hs ht r; omega⟩))
    have hinj : ∀ j : Int, (m : Int) + 1 ≤ j → j < n → w j ≠ w m := fun j j0 j1 q => by
      have := h2 m j (by omega) (by omega) j1
      rw [q] at this
      omega
    by_cases cP : w m = dv ∨ bhM A (w m) dv = true
    · have er : rmf w n dv m s = zrw s (w m) 0 := by
        unfold rmf
        rw [hwk, hb, if_pos cP]
      rw [er]
      refine ih (zrw s (w m) 0) (by omega) (fun e he f f0 f1 => ?_) (fun e he f => ?_)
      · rw [gt_zrw hr ⟨f0, f1⟩]
        by_cases q : e = w m
        · rw [if_pos q]
        · rw [if_neg q]
          obtain ⟨j, j0, j1, j2, j3⟩ := he
          refine i1 e ⟨j, ?_, j1, j2, j3⟩ f f0 f1
          have : j ≠ m := fun s => q (by rw [← j2, s])
          omega
      · have hne : e ≠ w m := fun q => he ⟨m, by omega, by omega, q.symm, by rw [q]; exact cP⟩
        by_cases hf : 0 ≤ f ∧ f < 24
        · rw [gt_zrw hr hf, if_neg hne]
          exact i2 e (fun ⟨j, j0, j1, j2, j3⟩ => he ⟨j, by omega, j1, j2, j3⟩) f
        · rw [gt_rg hf, gt_rg hf]
    · have er : rmf w n dv m s = s := by
        unfold rmf
        rw [hwk, hb, if_neg cP]
      rw [er]
      refine ih s (by omega) (fun e he f f0 f1 => ?_) (fun e he f => ?_)
      · obtain ⟨j, j0, j1, j2, j3⟩ := he
        refine i1 e ⟨j, ?_, j1, j2, j3⟩ f f0 f1
        have : j ≠ m := fun s => cP (by rw [← s, j2]; exact j3)
        omega
      · exact i2 e (fun ⟨j, j0, j1, j2, j3⟩ => he ⟨j, by omega, j1, j2, j3⟩) f
theorem lff_ok : ∀ (m : Nat) (i : Int) (s : zWS), 0 ≤ s.2 → s.2 ≤ i → (∀ j : Int, i ≤ j → s.1 j = w j) → 0 ≤ (lp (lff c) m i s).2 ∧ lsO (lp (lff c) m i s).1 (lp (lff c) m i s).2 = lsO s.1 s.2 ++ ((rgL i m).map w).filter (fun x => decide (0 < gt c x 0))
  | 0, i, s, h0, h1, h2 => ⟨h0, by simp only [lp, rgL, List.map_nil, List.filter_nil, List.append_nil]⟩
  | m + 1, i, s, h0, h1, h2 => by
    simp only [lp, rgL, List.map_cons]
    have hw := h2 i (by omega)
    by_cases q : 0 < gt c (s.1 i) 0
    · have e1 : lff c i s = (ups s.1 s.2 (s.1 i), s.2 + 1) := if_pos q
      obtain ⟨i1, i2⟩ := lff_ok m (i + 1) (lff c i s) (by rw [e1]; dsimp only; omega) (by rw [e1]; dsimp only; omega) (fun j hj => by
        rw [e1]
        dsimp only
        rw [ups_ne _ _ (by omega)]
        exact h2 j (by omega))
      refine ⟨i1, ?_⟩
      rw [i2, e1]
      dsimp only
      rw [lsO_push h0, List.append_assoc, List.filter_cons, hw]
      rw [hw] at q
      rw [decide_eq_true q, if_pos rfl]
      rfl
    · have e1 : lff c i s = s := if_neg q
      obtain ⟨i1, i2⟩ := lff_ok m (i + 1) (lff c i s) (by rw [e1]; exact h0) (by rw [e1]; omega) (fun j hj => by
        rw [e1]
        exact h2 j (by omega))
      refine ⟨i1, ?_⟩
      rw [i2, e1, List.filter_cons]
      rw [hw] at q
      rw [decide_eq_false q, if_neg (by decide)]
/-- the numbers without a set of devices -/
def RmR (p : Int → Bool) (A B : Int → Int) : Prop := (∀ e : Int, 0 ≤ e → e < 20 → p e = true → B (23 * e + 0) ≠ 1) ∧ ∀ j : Int, (∀ e : Int, 0 ≤ e → e < 20 → p e = true → j ≠ 23 * e + 0) → B j = A j
theorem rm_f (h : RmR p A B) (f0 : 0 < f) (f1 : f < 23) : B (23 * e + f) = A (23 * e + f) := h.2 _ (fun e' _ _ _ => by omega)
theorem rm_far (h : RmR p A B) {j : Int} (hj : 460 ≤ j) : B j = A j := h.2 _ (fun e' _ _ _ => by omega)
theorem rm_th (h : RmR p A B) : thM B e ↔ thM A e ∧ p e = false := by
  unfold thM
  constructor
  · rintro ⟨q0, q1, q2⟩
    have hp : p e = false := Bool.eq_false_iff.mpr (fun r => h.1 e q0 (by omega) r q2)
    refine ⟨⟨q0, q1, ?_⟩, hp⟩
    rw [← h.2 _ (fun e' _ _ s r => by
      have : e' = e := by omega
      rw [this, hp] at s
      exact absurd s (by decide))]
    exact q2
  · rintro ⟨⟨q0, q1, q2⟩, hp⟩
    refine ⟨q0, q1, ?_⟩
    rw [h.2 _ (fun e' _ _ s r => by
      have : e' = e := by omega
      rw [this, hp] at s
      exact absurd s (by decide))]
    exact q2
theorem rm_lv (h : RmR p A B) : ∀ (n : Nat) (b : Int), lvM B n b = lvM A n b
  | 0, _ => rfl
  | n + 1, b => by
    simp only [lvM]
    rw [rm_f h (by omega) (by omega), rm_lv h n]
theorem rm_ky (h : RmR p A B) : ∀ (n : Nat) (b u y : Int), kyM B n b u y = kyM A n b u y
  | 0, _, _, _ => rfl
  | n + 1, b, u, y => by
    simp only [kyM]
    rw [rm_f h (by omega) (by omega), rm_f h (by omega) (by omega), rm_ky h n]
theorem rm_ke (h : RmR p A B) : keM B e = keM A e := by
  unfold keM leM
  rw [rm_ky h, rm_f h (by omega) (by omega), rm_lv h]
theorem rm_up (h : RmR p A B) : ∀ (n : Nat) (b : Int), upM A n b → upM B n b
  | 0, _, q => q
  | n + 1, b, q => by
    simp only [upM] at q ⊢
    rw [rm_f h (by omega) (by omega), rm_f h (by omega) (by omega)]
    exact q.imp id (fun r => ⟨r.1, r.2.1, rm_up h n _ r.2.2⟩)
/-- what is behind a removed one is removed too -/
def PClo (p : Int → Bool) (A : Int → Int) : Prop := ∀ e, thM A e → brM A (A (23 * e + 2)) → p (A (23 * e + 2)) = true → p e = true
theorem rm_good (hg : gGd A) (h : RmR p A B) (hcl : PClo p A) : gGd B := by
  obtain ⟨⟨g1, g2, g3, g4, g5, g6, g7, g8, g9⟩, gO'⟩ := id hg
  have hb : ∀ e, brM B e ↔ brM A e ∧ p e = false := fun e => by
    have h1 : B (23 * e + 1) = A (23 * e + 1) := rm_f h (by omega) (by omega)
    unfold brM
    rw [rm_th h, h1]
    exact ⟨fun q => ⟨⟨q.1.1, q.2⟩, q.1.2⟩, fun q => ⟨⟨q.1.1, q.2⟩, q.1.2⟩⟩
  have ho : ∀ e, onM B e ↔ onM A e ∧ p e = false := fun e => by
    have h1 : B (23 * e + 4) = A (23 * e + 4) := rm_f h (by omega) (by omega)
    unfold onM
    rw [rm_th h, h1]
    exact ⟨fun q => ⟨⟨q.1.1, q.2⟩, q.1.2⟩, fun q => ⟨⟨q.1.1, q.2⟩, q.1.2⟩⟩
  have hpf : ∀ e, thM A e → p e = false → brM A (A (23 * e + 2)) → p (A (23 * e + 2)) = false := fun e he hp hb => Bool.eq_false_iff.mpr (fun q => by
    rw [hcl e he hb q] at hp
    exact absurd hp (by decide))
  have hM : MG B := fun e e0 e1 => by
    have m := g1 e e0 e1
    rw [rm_f h (f := 1) (by omega) (by omega), rm_f h (f := 2) (by omega) (by omega), rm_f h (f := 3) (by omega) (by omega), rm_f h (f := 4) (by omega) (by omega), rm_f h (f := 5) (by omega) (by omega), rm_f h (f := 15) (by omega) (by omega), rm_f h (f := 16) (by omega) (by omega), rm_f h (f := 17) (by omega) (by omega), rm_f h (f := 18) (by omega) (by omega)]
    obtain ⟨m1, m2, m3, m4, m5, m6, m7, m8, m9, m10, m11⟩ := m
    refine ⟨m1, m2, m3, m4, m5, fun a' a0 a1 => ?_, m7, m8, m9, m10, fun k k0 k1 => ?_⟩
    · rw [rm_f h (by omega) (by omega), rm_f h (by omega) (by omega), rm_f h (by omega) (by omega)]
      exact m6 a' a0 a1
    · rw [rm_f h (by omega) (by omega), rm_f h (by omega) (by omega)]
      exact m11 k k0 k1
  refine ⟨⟨hM, fun e e0 e1 he => ?_, by rw [rm_far h (by omega)]; exact g3, fun k k0 k1 => by rw [rm_far h (by omega)]; exact g4 k k0 k1, fun e he => ?_, fun e f he hf h1 h2 => ?_, fun e he => ?_, fun e a he a0 a1 => ?_, fun e k he k0 k1 => ?_⟩, gO_less gO' g1 hM (fun k k0 k1 => rm_far h (by omega)) (fun e he => ?_) (fun e he => ?_) (fun e he hn => ?_)⟩
  · exact rm_up h 5 e (g2 e e0 e1 ((rm_th h).mp ⟨e0, by omega, he⟩).1.2.2)
  · obtain ⟨q1, q2⟩ := (rm_th h).mp he
    rw [rm_f h (by omega) (by omega)]
    exact (g5 e q1).imp id (fun r => (hb _).mpr ⟨r, hpf e q1 q2 r⟩)
  · rw [rm_f h (by omega) (by omega), rm_f h (by omega) (by omega)] at h1 h2
    exact g6 e f ((rm_th h).mp he).1 ((rm_th h).mp hf).1 h1 h2
  · rw [rm_f h (by omega) (by omega)]
    exact g7 e ((hb e).mp he).1
  · have hq := ((rm_th h).mp he).1
    have := (g1 e (th_rg hq).1 (th_rg hq).2).2.2.2.2.1
    rw [rm_f h (by omega) (by omega)] at a1
    rw [rm_f h (by omega) (by omega)]
    exact g8 e a hq a0 a1
  · rw [rm_f h (by omega) (by omega)]
    refine g9 e k ⟨((rm_th h).mp he.1).1, ?_⟩ k0 k1
    rw [← rm_f h (e := e) (f := 1) (by omega) (by omega)]
    exact he.2
  · obtain ⟨q1, q2⟩ := (ho e).mp he
    refine ⟨q1, fun f f0 f1 => ?_⟩
    by_cases r : f = 0
    · rw [r, he.1.2.2, q1.1.2.2]
    · exact rm_f h (by omega) f1
  · obtain ⟨q1, q2⟩ := (ho e).mp he
    rw [rm_f h (by omega) (by omega)]
    refine (gO'.1 e q1).imp id (fun r => (ho _).mpr ⟨r, ?_⟩)
    rcases g5 e q1.1 with s | s
    · exact absurd r.1.1 (by omega)
    · exact hpf e q1.1 q2 s
  · obtain ⟨q1, q2⟩ := (rm_th h).mp he
    obtain ⟨o1, o2, o3, o4⟩ := gO'.2.1 e q1 (fun r => hn ((ho e).mpr ⟨r, q2⟩))
    refine ⟨?_, ?_, fun a a0 a1 => ?_, fun k k0 k1 => ⟨?_, ?_⟩⟩
    · rw [rm_f h (by omega) (by omega)]; exact o1
    · rw [rm_f h (by omega) (by omega)]; exact o2
    · rw [rm_f h (by omega) (by omega)]; exact o3 a a0 a1
    · rw [rm_f h (by omega) (by omega)]; exact (o4 k k0 k1).1
    · rw [rm_f h (by omega) (by omega)]; exact (o4 k k0 k1).2
end BE
