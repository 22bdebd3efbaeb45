/-! POWER-UP: the reference lays all down -/
section FH1
variable {X Y : zM} {c c' A B C Ao S D : Int → Int} {e f a b k t x v n N d i q bu dv lv : Int} {on on' : Int → Bool} {r : zLy} {m : Nat}
theorem le_Sh4 (h : Sh4 A B) (hs : gS A) : ∀ (n : Nat) (e : Int), thM A e → leM A e ≤ n → leM B e = leM A e
  | n, e, ht, hl => by
    have hsB := gS_of h hs
    have htB := (Sh4_th h).mpr ht
    have e2 : B (23 * e + 2) = A (23 * e + 2) := h e 2 ht.1 (th_rg ht).2 (by omega) (by omega)
    rcases le_rec hs ht with ⟨q1, q2⟩ | ⟨q1, q2⟩
    · rcases le_rec hsB htB with ⟨u1, u2⟩ | ⟨u1, u2⟩
      · omega
      · have := u1.1.1
        omega
    · rcases le_rec hsB htB with ⟨u1, u2⟩ | ⟨u1, u2⟩
      · have := q1.1.1
        omega
      · match n, hl with
        | 0, hl =>
          have := le_bd A (A (23 * e + 2))
          omega
        | n + 1, hl =>
          have := le_Sh4 h hs n _ q1.1 (by omega)
          rw [e2, this] at u2
          omega
/-- who is ON says so, the others are cleared -/
theorem on_row : ∀ (m : Nat) (i : Int) (A : Int → Int), 0 ≤ i → i + m ≤ 20 → (∀ e f : Int, 0 ≤ f → f < 23 → lp (onF on) m i A (23 * e + f) = if i ≤ e ∧ e < i + m then (if on e = true then (if f = 4 then 1 else A (23 * e + f)) else if thM A e then ofv f (A (23 * e + f)) else A (23 * e + f)) else A (23 * e + f)) ∧ ∀ j : Int, 460 ≤ j → lp (onF on) m i A j = A j
  | 0, i, A, _, _ => ⟨fun e f _ _ => by
    rw [if_neg (by omega)]
    rfl, fun _ _ => rfl⟩
  | m + 1, i, A, h0, h1 => by
    obtain ⟨g1, g2⟩ := on_row m (i + 1) (onF on i A) (by omega) (by omega)
    have er : ∀ e f : Int, 0 ≤ f → f < 23 → e ≠ i → onF on i A (23 * e + f) = A (23 * e + f) := fun e f f0 f1 q => by
      unfold onF
      by_cases c1 : on i = true
      · rw [if_pos c1, ups_ne _ _ (by omega)]
      · rw [if_neg c1]
        by_cases c2 : thM A i
        · rw [if_pos c2, ofM_row ⟨f0, f1⟩, if_neg q]
        · rw [if_neg c2]
    have hth : ∀ e, e ≠ i → (thM (onF on i A) e ↔ thM A e) := fun e q => by
      unfold thM
      constructor
      · rintro ⟨t0, t1, t2⟩
        exact ⟨t0, t1, by rw [← er e 0 (by omega) (by omega) q]; exact t2⟩
      · rintro ⟨t0, t1, t2⟩
        exact ⟨t0, t1, by rw [er e 0 (by omega) (by omega) q]; exact t2⟩
    simp only [lp]
    refine ⟨fun e f f0 f1 => ?_, fun j hj => ?_⟩
    · rw [g1 e f f0 f1]
      by_cases q : e = i
      · rw [if_neg (by omega), if_pos (by omega), q]
        unfold onF
        by_cases c1 : on i = true
        · rw [if_pos c1, if_pos c1]
          by_cases c3 : f = 4
          · rw [if_pos c3, c3, ups_at]
          · rw [if_neg c3, ups_ne _ _ (by omega)]
        · rw [if_neg c1, if_neg c1]
          by_cases c2 : thM A i
          · rw [if_pos c2, if_pos c2, ofM_row ⟨f0, f1⟩, if_pos rfl]
          · rw [if_neg c2, if_neg c2]
      · have e1 := er e f f0 f1 q
        rw [e1]
        by_cases r : i + 1 ≤ e ∧ e < i + 1 + (m : Int)
        · rw [if_pos r, if_pos (show i ≤ e ∧ e < i + ((m + 1 : Nat) : Int) by omega)]
          by_cases c1 : on e = true
          · rw [if_pos c1, if_pos c1]
          · rw [if_neg c1, if_neg c1]
            by_cases c2 : thM A e
            · rw [if_pos ((hth e q).mpr c2), if_pos c2]
            · rw [if_neg (fun s => c2 ((hth e q).mp s)), if_neg c2]
        · rw [if_neg r, if_neg (by omega)]
    · rw [g2 j hj]
      unfold onF
      split
      · exact ups_ne _ _ (by omega)
      · split
        · exact ofM_far (by omega) (Or.inr hj)
        · rfl
/-- one device laid down -/
theorem ldF_row (hd : 0 ≤ dv) (hbu : bu < 20) : ∀ (m : Nat) (i : Int) (A : Int → Int), 0 ≤ i → i + m ≤ 3 → (∀ a : Int, 0 ≤ a → a < 3 → 0 ≤ A (23 * dv + (6 + a)) ∧ A (23 * dv + (6 + a)) ≤ 1) → (∀ a : Int, i ≤ a → a < i + m → lp (ldF D bu dv) m i A (23 * dv + (12 + a)) = bsX A bu (A (23 * dv + (6 + a))) + D (80 * A (23 * dv + (6 + a)) + (3 * dv + a))) ∧ ∀ j : Int, (∀ a : Int, i ≤ a → a < i + m → j ≠ 23 * dv + (12 + a)) → lp (ldF D bu dv) m i A j = A j
  | 0, i, A, _, _, _ => ⟨fun a a0 a1 => by omega, fun _ _ => rfl⟩
  | m + 1, i, A, h0, h1, hK => by
    have ec : ∀ j : Int, j ≠ 23 * dv + (12 + i) → ldF D bu dv i A j = A j := fun j hj => ups_ne _ _ hj
    have e6 : ∀ a : Int, 0 ≤ a → a < 3 → ldF D bu dv i A (23 * dv + (6 + a)) = A (23 * dv + (6 + a)) := fun a a0 a1 => ec _ (by omega)
    obtain ⟨g1, g2⟩ := ldF_row hd hbu m (i + 1) (ldF D bu dv i A) (by omega) (by omega) (fun a a0 a1 => by rw [e6 a a0 a1]; exact hK a a0 a1)
    simp only [lp]
    refine ⟨fun a a0 a1 => ?_, fun j hj => ?_⟩
    · by_cases q : a = i
      · rw [q, g2 _ (fun a' a0' a1' => by omega)]
        exact ups_at ..
      · have hka := hK a (by omega) (by omega)
        rw [g1 a (by omega) (by omega), e6 a (by omega) (by omega)]
        have eb : bsX (ldF D bu dv i A) bu (A (23 * dv + (6 + a))) = bsX A bu (A (23 * dv + (6 + a))) := by
          unfold bsX
          split
          · rfl
          · exact ec _ (by omega)
        rw [eb]
    · rw [g2 j (fun a a0 a1 => hj a (by omega) (by omega)), ec j (hj i (Int.le_refl _) (by omega))]
theorem ldR_row (hd : 0 ≤ dv ∧ dv < 20) (hM : MG A) : (∀ a : Int, 0 ≤ a → a < A (23 * dv + 5) → ldR D S dv A (23 * dv + (12 + a)) = bsX A (A (23 * dv + 2)) (A (23 * dv + (6 + a))) + D (80 * A (23 * dv + (6 + a)) + (3 * dv + a))) ∧ (A (23 * dv + 1) = 1 → ∀ k : Int, 0 ≤ k → k < 2 → ldR D S dv A (23 * dv + (21 + k)) = S (80 * k + (60 + dv)) ∧ ldR D S dv A (23 * dv + (19 + k)) = if S (80 * k + (60 + dv)) = 0 then -1 else bsX A (A (23 * dv + 2)) k + D (80 * k + (60 + dv))) ∧ ∀ j : Int, (∀ a : Int, 0 ≤ a → a < A (23 * dv + 5) → j ≠ 23 * dv + (12 + a)) → (A (23 * dv + 1) = 1 → ∀ k : Int, 0 ≤ k → k < 2 → j ≠ 23 * dv + (19 + k) ∧ j ≠ 23 * dv + (21 + k)) → ldR D S dv A j = A j := by
  obtain ⟨m1, m2, m3, m4, m5, m6, -⟩ := hM dv hd.1 hd.2
  obtain ⟨g1, g2⟩ := ldF_row (D := D) (bu := A (23 * dv + 2)) hd.1 (by omega) (A (23 * dv + 5)).toNat 0 A (Int.le_refl _) (by omega) (fun a a0 a1 => (m6 a a0 a1).1)
  have eR : ldR D S dv A = ldK D S (A (23 * dv + 2)) dv 1 (ldK D S (A (23 * dv + 2)) dv 0 (lp (ldF D (A (23 * dv + 2)) dv) (A (23 * dv + 5)).toNat 0 A)) := rfl
  have gx : ∀ k : Int, 0 ≤ k → k < 2 → bsX (lp (ldF D (A (23 * dv + 2)) dv) (A (23 * dv + 5)).toNat 0 A) (A (23 * dv + 2)) k = bsX A (A (23 * dv + 2)) k := fun k k0 k1 => by
    unfold bsX
    split
    · rfl
    · exact g2 _ (fun a a0 a1 => by omega)
  have e1 : lp (ldF D (A (23 * dv + 2)) dv) (A (23 * dv + 5)).toNat 0 A (23 * dv + 1) = A (23 * dv + 1) := g2 _ (fun a a0 a1 => by omega)
  rw [eR]
  generalize lp (ldF D (A (23 * dv + 2)) dv) (A (23 * dv + 5)).toNat 0 A = C at *
  by_cases hb : A (23 * dv + 1) = 1
  · have hb1 : C (23 * dv + 1) = 1 := by rw [e1]; exact hb
    have k0 : ldK D S (A (23 * dv + 2)) dv 0 C = ups (ups C (23 * dv + (21 + 0)) (S (80 * 0 + (60 + dv)))) (23 * dv + (19 + 0)) (if S (80 * 0 + (60 + dv)) = 0 then -1 else bsX (ups C (23 * dv + (21 + 0)) (S (80 * 0 + (60 + dv)))) (A (23 * dv + 2)) 0 + D (80 * 0 + (60 + dv))) := if_pos hb1
    have b0 : bsX (ups C (23 * dv + (21 + 0)) (S (80 * 0 + (60 + dv)))) (A (23 * dv + 2)) 0 = bsX A (A (23 * dv + 2)) 0 := by
      rw [← gx 0 (by omega) (by omega)]
      unfold bsX
      split
      · rfl
      · exact ups_ne _ _ (by omega)
    rw [b0] at k0
    rw [k0]
    generalize hv0 : (if S (80 * 0 + (60 + dv)) = 0 then -1 else bsX A (A (23 * dv + 2)) 0 + D (80 * 0 + (60 + dv))) = v0
    have hb2 : ups (ups C (23 * dv + (21 + 0)) (S (80 * 0 + (60 + dv)))) (23 * dv + (19 + 0)) v0 (23 * dv + 1) = 1 := by
      rw [ups_ne _ _ (by omega), ups_ne _ _ (by omega)]
      exact hb1
    have k1 : ldK D S (A (23 * dv + 2)) dv 1 (ups (ups C (23 * dv + (21 + 0)) (S (80 * 0 + (60 + dv)))) (23 * dv + (19 + 0)) v0) = ups (ups (ups (ups C (23 * dv + (21 + 0)) (S (80 * 0 + (60 + dv)))) (23 * dv + (19 + 0)) v0) (23 * dv + (21 + 1)) (S (80 * 1 + (60 + dv)))) (23 * dv + (19 + 1)) (if S (80 * 1 + (60 + dv)) = 0 then -1 else bsX (ups (ups (ups C (23 * dv + (21 + 0)) (S (80 * 0 + (60 + dv)))) (23 * dv + (19 + 0)) v0) (23 * dv + (21 + 1)) (S (80 * 1 + (60 + dv)))) (A (23 * dv + 2)) 1 + D (80 * 1 + (60 + dv))) := if_pos hb2
    have b1 : bsX (ups (ups (ups C (23 * dv + (21 + 0)) (S (80 * 0 + (60 + dv)))) (23 * dv + (19 + 0)) v0) (23 * dv + (21 + 1)) (S (80 * 1 + (60 + dv)))) (A (23 * dv + 2)) 1 = bsX A (A (23 * dv + 2)) 1 := by
      rw [← gx 1 (by omega) (by omega)]
      unfold bsX
      split
      · rfl
      · rw [ups_ne _ _ (by omega), ups_ne _ _ (by omega), ups_ne _ _ (by omega)]
    rw [b1] at k1
    rw [k1]
    refine ⟨fun a a0 a1 => ?_, fun _ k q0 q1 => ?_, fun j hj1 hj2 => ?_⟩
    · rw [ups_ne _ _ (by omega), ups_ne _ _ (by omega), ups_ne _ _ (by omega), ups_ne _ _ (by omega)]
      exact g1 a a0 (by omega)
    · rcases (show k = 0 ∨ k = 1 by omega) with rfl | rfl
      · refine ⟨?_, ?_⟩
        · rw [ups_ne _ _ (by omega), ups_ne _ _ (by omega), ups_ne _ _ (by omega), ups_at]
        · rw [ups_ne _ _ (by omega), ups_ne _ _ (by omega), ups_at, hv0]
      · refine ⟨?_, ?_⟩
        · rw [ups_ne _ _ (by omega), ups_at]
        · rw [ups_at]
    · have j0 := hj2 hb 0 (by omega) (by omega)
      have j1 := hj2 hb 1 (by omega) (by omega)
      rw [ups_ne _ _ j1.1, ups_ne _ _ j1.2, ups_ne _ _ j0.1, ups_ne _ _ j0.2]
      exact g2 j (fun a a0 a1 => hj1 a a0 (by omega))
  · have hb1 : ¬ C (23 * dv + 1) = 1 := by rw [e1]; exact hb
    have k0 : ldK D S (A (23 * dv + 2)) dv 0 C = C := if_neg hb1
    have k1 : ldK D S (A (23 * dv + 2)) dv 1 C = C := if_neg hb1
    rw [k0, k1]
    exact ⟨fun a a0 a1 => g1 a a0 (by omega), fun q => absurd q hb, fun j hj1 _ => g2 j (fun a a0 a1 => hj1 a a0 (by omega))⟩
/-- a device's numbers, laid down -/
def fnV (A Ao : Int → Int) (r : zLy) (x f : Int) : Int := if 12 ≤ f ∧ f < 12 + A (23 * x + 5) then liP A (teD (A (23 * x + (f - 6))) r) (3 * x + (f - 12)) else if A (23 * x + 1) = 1 ∧ (f = 19 ∨ f = 20) then (if teS (f - 19) r (60 + x) = 0 then -1 else liP A (teD (f - 19) r) (60 + x)) else if A (23 * x + 1) = 1 ∧ (f = 21 ∨ f = 22) then teS (f - 21) r (60 + x) else Ao (23 * x + f)
/-- on the way -/
def LdI (A Ao : Int → Int) (on : Int → Bool) (r : zLy) (dn : Int → Prop) (C : Int → Int) : Prop := (∀ x f : Int, on x = true → dn x → 0 ≤ f → f < 23 → C (23 * x + f) = fnV A Ao r x f) ∧ (∀ x f : Int, 0 ≤ x → x < 20 → 0 ≤ f → f < 23 → ¬ (on x = true ∧ dn x) → C (23 * x + f) = Ao (23 * x + f)) ∧ ∀ j : Int, 460 ≤ j → C j = Ao j
end FH1
