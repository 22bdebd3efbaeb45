/-! CLASS AND REFERENCE: one device's cells, and what is read of them -/
section SM
variable {c A : Int → Int} {e dv a w k : Int}
/-- a device's cells agree -/
def SimD (c A : Int → Int) (e : Int) : Prop := gt c e 0 = 1 + A (23 * e + 1) ∧ gt c e 1 = A (23 * e + 2) ∧ gt c e 2 = A (23 * e + 3) ∧ gt c e 3 = A (23 * e + 4) ∧ gt c e 6 = A (23 * e + 5) ∧ gt c e 4 = A (23 * e + 15) ∧ gt c e 5 = A (23 * e + 16) ∧ (∀ a : Int, 0 ≤ a → a < A (23 * e + 5) → gt c e (9 + a) = A (23 * e + (6 + a)) ∧ gt c e (12 + a) = A (23 * e + (9 + a)) ∧ gt c e (15 + a) = A (23 * e + (12 + a))) ∧ (A (23 * e + 1) = 1 → A (23 * e + 5) = 0 ∧ (A (23 * e + 4) = 1 → gt c e 7 = A (23 * e + 17) ∧ gt c e 8 = A (23 * e + 18) ∧ (∀ k : Int, 0 ≤ k → k < 2 → gt c e (18 + k) = A (23 * e + (19 + k)) ∧ gt c e (20 + k) = A (23 * e + (21 + k)))))
/-- all devices' cells agree -/
def SimC (c A : Int → Int) : Prop := ∀ e : Int, 0 ≤ e → e < 20 → (A (23 * e + 1) = 0 ∨ A (23 * e + 1) = 1) ∧ (A (23 * e + 4) = 0 ∨ A (23 * e + 4) = 1) ∧ (A (23 * e + 0) = 1 → SimD c A e) ∧ (A (23 * e + 0) ≠ 1 → gt c e 0 = 0 ∧ gt c e 3 ≠ 1)
theorem gt_out (h : ¬ (0 ≤ e ∧ e < 20)) : gt c e k = -1 := by
  unfold gt
  exact if_neg (fun q => h ⟨q.1, q.2.1⟩)
theorem sc_th (h : SimC c A) : 0 < gt c e 0 ↔ thM A e := by
  by_cases he : 0 ≤ e ∧ e < 20
  · obtain ⟨h1, -, h2, h3⟩ := h e he.1 he.2
    by_cases c1 : A (23 * e + 0) = 1
    · have := (h2 c1).1
      exact ⟨fun _ => ⟨he.1, by omega, c1⟩, fun _ => by omega⟩
    · have := (h3 c1).1
      exact ⟨fun q => by omega, fun q => absurd q.2.2 c1⟩
  · rw [gt_out he]
    exact ⟨fun q => by omega, fun q => absurd ⟨q.1, by have := q.2.1; omega⟩ he⟩
theorem sc_d (h : SimC c A) (ht : thM A e) : SimD c A e := (h e ht.1 (by have := ht.2.1; omega)).2.2.1 ht.2.2
theorem sc_ep (h : SimC c A) : gt c e 0 = 1 ↔ epM A e := by
  constructor
  · intro q
    have ht : thM A e := (sc_th h).mp (by omega)
    have := (sc_d h ht).1
    exact ⟨ht, by omega⟩
  · intro q
    have h1 := (sc_d h q.1).1
    have h2 := q.2
    omega
theorem sc_br (h : SimC c A) : gt c e 0 = 2 ↔ brM A e := by
  constructor
  · intro q
    have ht : thM A e := (sc_th h).mp (by omega)
    have := (sc_d h ht).1
    exact ⟨ht, by omega⟩
  · intro q
    have h1 := (sc_d h q.1).1
    have h2 := q.2
    omega
theorem sc_on (h : SimC c A) : gt c e 3 = 1 ↔ onM A e := by
  constructor
  · intro q
    by_cases he : 0 ≤ e ∧ e < 20
    · obtain ⟨h1, -, h2, h3⟩ := h e he.1 he.2
      by_cases c1 : A (23 * e + 0) = 1
      · have h4 := (h2 c1).2.2.2.1
        exact ⟨⟨he.1, by omega, c1⟩, by omega⟩
      · exact absurd q (h3 c1).2
    · rw [gt_out he] at q
      omega
  · intro q
    have h1 := (sc_d h q.1).2.2.2.1
    have h2 := q.2
    omega
theorem sim_device (h : SimC c A) : dvA c dv w = dvM A dv w := by
  unfold dvA dvM
  by_cases c1 : thM A dv
  · rw [if_pos ((sc_th h).mpr c1), if_pos c1]
    obtain ⟨h1, h2, h3, h4, h5, h6, h7, -⟩ := sc_d h c1
    have h8 := (h dv c1.1 (by have := c1.2.1; omega)).1
    rw [h1, h2, h3, h4, h5, h6, h7]
    have e0 : (if 1 + A (23 * dv + 1) = 2 then (1 : Int) else 0) = A (23 * dv + 1) := by
      split <;> omega
    rw [e0]
  · rw [if_neg (fun q => c1 ((sc_th h).mp q)), if_neg c1]
theorem sim_bar (h : SimC c A) : brA c dv a w = baM A dv a w := by
  unfold brA baM
  by_cases c1 : epM A dv ∧ 0 ≤ a ∧ a < A (23 * dv + 5)
  · have hd := sc_d h c1.1.1
    obtain ⟨h9, h12, h15⟩ := hd.2.2.2.2.2.2.2.1 a c1.2.1 c1.2.2
    rw [if_pos ⟨(sc_ep h).mpr c1.1, c1.2.1, by rw [hd.2.2.2.2.1]; exact c1.2.2⟩, if_pos (show thM A dv ∧ 0 ≤ a ∧ a ≤ A (23 * dv + 5) - 1 from ⟨c1.1.1, c1.2.1, by have := c1.2.2; omega⟩), h9, h12, h15]
  · have n2 : ¬ (thM A dv ∧ 0 ≤ a ∧ a ≤ A (23 * dv + 5) - 1) := by
      rintro ⟨q1, q2, q3⟩
      have hd := sc_d h q1
      have h8 := (h dv q1.1 (by have := q1.2.1; omega)).1
      by_cases c2 : A (23 * dv + 1) = 1
      · have := (hd.2.2.2.2.2.2.2.2 c2).1
        omega
      · exact c1 ⟨⟨q1, by omega⟩, q2, by omega⟩
    rw [if_neg n2]
    refine if_neg (fun q => c1 ?_)
    have q1 := (sc_ep h).mp q.1
    have hd := sc_d h q1.1
    exact ⟨q1, q.2.1, by have := q.2.2; rw [hd.2.2.2.2.1] at this; exact this⟩
theorem sim_window (h : SimC c A) : wnA c dv w = wnM A dv w := by
  unfold wnA wnM
  by_cases c1 : brM A dv ∧ onM A dv
  · have hd := sc_d h c1.1.1
    obtain ⟨h7, h8, hk⟩ := (hd.2.2.2.2.2.2.2.2 c1.1.2).2 c1.2.2
    have k0 := hk 0 (by omega) (by omega)
    have k1 := hk 1 (by omega) (by omega)
    simp only [Int.add_zero, show (18 : Int) + 1 = 19 from rfl, show (19 : Int) + 1 = 20 from rfl, show (20 : Int) + 1 = 21 from rfl, show (21 : Int) + 1 = 22 from rfl] at k0 k1
    rw [if_pos ⟨(sc_br h).mpr c1.1, (sc_on h).mpr c1.2⟩, if_pos c1, h7, h8, k0.1, k0.2, k1.1, k1.2]
  · rw [if_neg c1]
    exact if_neg (fun q => c1 ⟨(sc_br h).mp q.1, (sc_on h).mp q.2⟩)
theorem sim_bus (h : SimC c A) (hg : MG A) : bsA c dv = bsM A dv := by
  unfold bsA bsM
  by_cases c1 : thM A dv
  · have hd := sc_d h c1
    have h2 := hd.2.1
    have hr := MG_at hg (dv := dv) ⟨c1.1, by have := c1.2.1; omega⟩
    by_cases c2 : A (23 * dv + 2) = -1
    · have eb : buM A dv = 20 := if_pos (by omega)
      rw [if_pos ⟨(sc_th h).mpr c1, Or.inl (by rw [h2]; exact c2)⟩, if_pos ⟨c1, Or.inl eb⟩, h2, c2, eb]
      rfl
    · have eb : buM A dv = A (23 * dv + 2) := if_neg (by omega)
      rw [h2, eb]
      by_cases c3 : brM A (A (23 * dv + 2)) ∧ onM A (A (23 * dv + 2))
      · have hu := sc_d h c3.1.1
        have h7 := ((hu.2.2.2.2.2.2.2.2 c3.1.2).2 c3.2.2).1
        rw [if_pos ⟨(sc_th h).mpr c1, Or.inr ⟨(sc_br h).mpr c3.1, (sc_on h).mpr c3.2⟩⟩, if_pos ⟨c1, Or.inr ⟨c3.2, c3.1.2⟩⟩]
        unfold fstf fsM
        rw [if_neg c2, if_neg (by omega), h7]
      · have n1 : ¬ (0 < gt c dv 0 ∧ (A (23 * dv + 2) = -1 ∨ gt c (A (23 * dv + 2)) 0 = 2 ∧ gt c (A (23 * dv + 2)) 3 = 1)) := fun q => q.2.elim c2 (fun q2 => c3 ⟨(sc_br h).mp q2.1, (sc_on h).mp q2.2⟩)
        have n2 : ¬ (thM A dv ∧ buOn A (A (23 * dv + 2))) := fun q => q.2.elim (by omega) (fun q2 => c3 ⟨⟨q2.1.1, q2.2⟩, q2.1⟩)
        rw [if_neg n1, if_neg n2]
  · rw [if_neg (fun q => c1 ((sc_th h).mp q.1)), if_neg (fun q => c1 q.1)]
/-- loops over equal functions -/
theorem lp_congr {S : Type} {f g : Int → S → S} : ∀ (n : Nat) (i : Int) (s : S), (∀ j : Int, i ≤ j → j < i + n → ∀ s, f j s = g j s) → lp f n i s = lp g n i s
  | 0, _, _, _ => rfl
  | n + 1, i, s, h => by
    simp only [lp]
    rw [h i (by omega) (by omega) s]
    exact lp_congr n (i + 1) _ (fun j h1 h2 s => h j (by omega) (by omega) s)
theorem ff_congr {p q : Int → Bool} : ∀ (n : Nat) (i : Int), (∀ j : Int, i ≤ j → j < i + n → p j = q j) → ff p n i = ff q n i
  | 0, _, _ => rfl
  | n + 1, i, h => by
    simp only [ff]
    rw [h i (by omega) (by omega), ff_congr n (i + 1) (fun j h1 h2 => h j (by omega) (by omega))]
theorem cnt_congr {p q : Int → Bool} (n : Nat) (i s : Int) (h : ∀ j : Int, i ≤ j → j < i + n → p j = q j) : lp (cntf p) n i s = lp (cntf q) n i s := lp_congr n i s (fun j h1 h2 s => by
  unfold cntf
  rw [h j h1 h2])
theorem sim_onB (h : SimC c A) : onB c e = onB' A e := by
  unfold onB onB'
  exact decide_eq_decide.mpr (sc_on h)
theorem sim_brB (h : SimC c A) : brB c e = brB' A e := by
  unfold brB brB'
  exact decide_eq_decide.mpr (sc_br h)
theorem sim_plg (h : SimC c A) : plgB c a w e = isM A a w e := by
  unfold plgB isM
  refine decide_eq_decide.mpr ?_
  constructor
  · rintro ⟨q1, q2, q3⟩
    have ht := (sc_th h).mp q1
    have hd := sc_d h ht
    exact ⟨ht, by rw [← hd.2.1]; exact q2, by rw [← hd.2.2.1]; exact q3⟩
  · rintro ⟨q1, q2, q3⟩
    have hd := sc_d h q1
    exact ⟨(sc_th h).mpr q1, by rw [hd.2.1]; exact q2, by rw [hd.2.2.1]; exact q3⟩
theorem sim_vac (h : SimC c A) : vacB c e = !thB A e := by
  unfold vacB thB
  rw [decide_not, show decide (0 < gt c e 0) = decide (thM A e) from decide_eq_decide.mpr (sc_th h)]
theorem sim_free (h : SimC c A) : ff (vacB c) 20 0 = fnM A := ff_congr 20 0 (fun _ _ _ => sim_vac h)
end SM
