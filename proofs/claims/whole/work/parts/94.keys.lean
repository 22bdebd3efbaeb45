/-! THE TREE: levels, keys, what is behind what -/
section KY
variable {A B : Int → Int} {e f b p : Int}
/-- the tree alone -/
def gS (A : Int → Int) : Prop := MU A ∧ gPar A ∧ gSlo A
theorem gT_S (h : gT A) : gS A := ⟨h.2.1, h.2.2.2.2.1, h.2.2.2.2.2.1⟩
theorem lv_more : ∀ (n : Nat) (b : Int), upM A n b → lvM A (n + 1) b = lvM A n b
  | 0, b, h => by
    have h' : b < 0 := h
    simp only [lvM, if_pos h']
  | n + 1, b, h => by
    simp only [upM] at h
    rw [show lvM A (n + 1 + 1) b = if b < 0 then 0 else lvM A (n + 1) (A (23 * b + 2)) + 1 from rfl, show lvM A (n + 1) b = if b < 0 then 0 else lvM A n (A (23 * b + 2)) + 1 from rfl]
    by_cases q : b < 0
    · rw [if_pos q, if_pos q]
    · rw [if_neg q, if_neg q, lv_more n _ (h.resolve_left q).2.2]
theorem ab_more : ∀ (n : Nat) (b x : Int), upM A n b → abM A (n + 1) b x = abM A n b x
  | 0, b, x, h => by
    have h' : b < 0 := h
    simp only [abM, if_pos h']
  | n + 1, b, x, h => by
    simp only [upM] at h
    rw [show abM A (n + 1 + 1) b x = if b < 0 then false else decide (x = b) || abM A (n + 1) (A (23 * b + 2)) x from rfl, show abM A (n + 1) b x = if b < 0 then false else decide (x = b) || abM A n (A (23 * b + 2)) x from rfl]
    by_cases q : b < 0
    · rw [if_pos q, if_pos q]
    · rw [if_neg q, if_neg q, ab_more n _ x (h.resolve_left q).2.2]
theorem ky_more : ∀ (n : Nat) (b u y : Int), upM A n b → kyM A (n + 1) b u y = kyM A n b u y
  | 0, b, u, y, h => by
    have h' : b < 0 := h
    simp only [kyM, if_pos h']
  | n + 1, b, u, y, h => by
    simp only [upM] at h
    rw [show kyM A (n + 1 + 1) b u y = if b < 0 then y else kyM A (n + 1) (A (23 * b + 2)) (u * 9) (y + u * (A (23 * b + 3) + 1)) from rfl, show kyM A (n + 1) b u y = if b < 0 then y else kyM A n (A (23 * b + 2)) (u * 9) (y + u * (A (23 * b + 3) + 1)) from rfl]
    by_cases q : b < 0
    · rw [if_pos q, if_pos q]
    · rw [if_neg q, if_neg q, ky_more n _ _ _ (h.resolve_left q).2.2]
theorem ky_add : ∀ (n : Nat) (b u y : Int), kyM A n b u y = y + kyM A n b u 0
  | 0, b, u, y => by simp only [kyM]; omega
  | n + 1, b, u, y => by
    simp only [kyM]
    by_cases q : b < 0
    · rw [if_pos q, if_pos q]; omega
    · rw [if_neg q, if_neg q, ky_add n _ _ (y + _), ky_add n _ _ (0 + _)]
      omega
/-- a device's parent is there too, one level up -/
theorem le_rec (hs : gS A) (ht : thM A e) : (A (23 * e + 2) = -1 ∧ leM A e = 0) ∨ (brM A (A (23 * e + 2)) ∧ leM A e = leM A (A (23 * e + 2)) + 1) := by
  obtain ⟨hu, hp, -⟩ := hs
  rcases hp e ht with q | q
  · refine Or.inl ⟨q, ?_⟩
    unfold leM
    rw [q]
    rfl
  · refine Or.inr ⟨q, ?_⟩
    have h4 := (MU_up hu ht).2
    have hn : ¬ A (23 * e + 2) < 0 := by have := q.1.1; omega
    simp only [upM] at h4
    have h3 := (h4.resolve_left hn).2.2
    unfold leM
    rw [lv_more 3 _ h3]
    exact if_neg hn
theorem le_bd (A : Int → Int) (e : Int) : 0 ≤ leM A e ∧ leM A e ≤ 4 := lvM_bd 4 _
/-- the unit of a device's slot in its key -/
def uN (A : Int → Int) (e : Int) : Int := pw9 (4 - leM A e).toNat
theorem uN_cases (A : Int → Int) (e : Int) : (leM A e = 0 ∧ uN A e = 6561) ∨ (leM A e = 1 ∧ uN A e = 729) ∨ (leM A e = 2 ∧ uN A e = 81) ∨ (leM A e = 3 ∧ uN A e = 9) ∨ (leM A e = 4 ∧ uN A e = 1) := by
  have h := le_bd A e
  unfold uN
  rcases (show leM A e = 0 ∨ leM A e = 1 ∨ leM A e = 2 ∨ leM A e = 3 ∨ leM A e = 4 by omega) with q | q | q | q | q <;> rw [q] <;> simp [pw9]
theorem ke_rec (hs : gS A) (ht : thM A e) : (A (23 * e + 2) = -1 ∧ leM A e = 0 ∧ keM A e = uN A e * (A (23 * e + 3) + 1)) ∨ (brM A (A (23 * e + 2)) ∧ leM A e = leM A (A (23 * e + 2)) + 1 ∧ keM A e = keM A (A (23 * e + 2)) + uN A e * (A (23 * e + 3) + 1)) := by
  have hn : ¬ e < 0 := by have := ht.1; omega
  have h4 := (MU_up hs.1 ht).2
  have e1 : keM A e = kyM A 4 (A (23 * e + 2)) (uN A e * 9) (0 + uN A e * (A (23 * e + 3) + 1)) := by
    unfold keM
    rw [kyM, if_neg hn]
    rfl
  rcases le_rec hs ht with ⟨q, q1⟩ | ⟨q, q1⟩
  · refine Or.inl ⟨q, q1, ?_⟩
    rw [e1, q]
    simp only [kyM]
    rw [if_pos (by omega)]
    omega
  · refine Or.inr ⟨q, q1, ?_⟩
    have hn2 : ¬ A (23 * e + 2) < 0 := by have := q.1.1; omega
    have h5 := hs.1 _ q.1.1 (th_rg q.1).2 q.1.2.2
    have e2 : keM A (A (23 * e + 2)) = kyM A 4 (A (23 * e + 2)) (uN A e * 9) 0 := by
      unfold keM
      rw [ky_more 4 _ _ _ h4]
      have : pw9 (4 - leM A (A (23 * e + 2))).toNat = uN A e * 9 := by
        unfold uN
        have hb := le_bd A e
        have hb2 := le_bd A (A (23 * e + 2))
        rw [show (4 - leM A (A (23 * e + 2))).toNat = (4 - leM A e).toNat + 1 by omega, pw9]
      rw [this]
    rw [e1, ky_add, e2]
    omega
theorem sl_rg (hs : gS A) (ht : thM A e) : 0 ≤ A (23 * e + 3) ∧ A (23 * e + 3) ≤ 7 := (MU_up hs.1 ht).1
/-- a key ends at its own digit, which is not 0 -/
theorem ke_ok (hs : gS A) : ∀ (n : Nat) (e : Int), thM A e → leM A e ≤ n → 0 < keM A e ∧ keM A e % uN A e = 0 ∧ keM A e % (uN A e * 9) ≠ 0 ∧ keM A e + uN A e ≤ 59049
  | n, e, ht, hl => by
    have hr := sl_rg hs ht
    have hc := uN_cases A e
    rcases ke_rec hs ht with ⟨q0, q1, q2⟩ | ⟨q0, q1, q2⟩
    · rcases hc with ⟨c0, c1⟩ | ⟨c0, c1⟩ | ⟨c0, c1⟩ | ⟨c0, c1⟩ | ⟨c0, c1⟩ <;> rw [c1] at q2 ⊢ <;> omega
    · have hb := le_bd A (A (23 * e + 2))
      match n, hl with
      | 0, hl => omega
      | n + 1, hl =>
        obtain ⟨i1, i2, i3, i4⟩ := ke_ok hs n _ q0.1 (by omega)
        have hc2 := uN_cases A (A (23 * e + 2))
        rcases hc with ⟨c0, c1⟩ | ⟨c0, c1⟩ | ⟨c0, c1⟩ | ⟨c0, c1⟩ | ⟨c0, c1⟩ <;> rcases hc2 with ⟨d0, d1⟩ | ⟨d0, d1⟩ | ⟨d0, d1⟩ | ⟨d0, d1⟩ | ⟨d0, d1⟩ <;> rw [c1] at q2 ⊢ <;> rw [d1] at i2 i3 i4 <;> omega
theorem ke_ok' (hs : gS A) (ht : thM A e) : 0 < keM A e ∧ keM A e % uN A e = 0 ∧ keM A e % (uN A e * 9) ≠ 0 ∧ keM A e + uN A e ≤ 59049 := ke_ok hs 4 e ht (le_bd A e).2
/-- keys tell devices apart -/
theorem ke_inj (hs : gS A) : ∀ (n : Nat) (e f : Int), thM A e → thM A f → leM A e ≤ n → keM A e = keM A f → e = f
  | n, e, f, he, hf, hl, hk => by
    have hre := sl_rg hs he
    have hrf := sl_rg hs hf
    have oe := ke_ok' hs he
    have of' := ke_ok' hs hf
    have ce := uN_cases A e
    have cf := uN_cases A f
    have hlv : leM A e = leM A f ∧ uN A e = uN A f := by
      rcases ce with ⟨c0, c1⟩ | ⟨c0, c1⟩ | ⟨c0, c1⟩ | ⟨c0, c1⟩ | ⟨c0, c1⟩ <;> rcases cf with ⟨d0, d1⟩ | ⟨d0, d1⟩ | ⟨d0, d1⟩ | ⟨d0, d1⟩ | ⟨d0, d1⟩ <;> rw [c1] at oe <;> rw [d1] at of' <;> omega
    rcases ke_rec hs he with ⟨q0, q1, q2⟩ | ⟨q0, q1, q2⟩ <;> rcases ke_rec hs hf with ⟨r0, r1, r2⟩ | ⟨r0, r1, r2⟩
    · refine hs.2.2 e f he hf (by omega) ?_
      rw [← hlv.2] at r2
      rcases ce with ⟨c0, c1⟩ | ⟨c0, c1⟩ | ⟨c0, c1⟩ | ⟨c0, c1⟩ | ⟨c0, c1⟩ <;> rw [c1] at q2 r2 <;> omega
    · have := le_bd A (A (23 * f + 2))
      omega
    · have := le_bd A (A (23 * e + 2))
      omega
    · have hbe := le_bd A (A (23 * e + 2))
      have pe := ke_ok' hs q0.1
      have pf := ke_ok' hs r0.1
      have ue := uN_cases A (A (23 * e + 2))
      have uf := uN_cases A (A (23 * f + 2))
      have hkp : keM A (A (23 * e + 2)) = keM A (A (23 * f + 2)) ∧ A (23 * e + 3) = A (23 * f + 3) := by
        rw [← hlv.2] at r2
        rcases ce with ⟨c0, c1⟩ | ⟨c0, c1⟩ | ⟨c0, c1⟩ | ⟨c0, c1⟩ | ⟨c0, c1⟩ <;> rcases ue with ⟨d0, d1⟩ | ⟨d0, d1⟩ | ⟨d0, d1⟩ | ⟨d0, d1⟩ | ⟨d0, d1⟩ <;> rcases uf with ⟨f0, f1⟩ | ⟨f0, f1⟩ | ⟨f0, f1⟩ | ⟨f0, f1⟩ | ⟨f0, f1⟩ <;> first | (exfalso; omega) | (rw [c1] at q2 r2; rw [d1] at pe; rw [f1] at pf; omega)
      match n, hl with
      | 0, hl => omega
      | n + 1, hl =>
        have := ke_inj hs n _ _ q0.1 r0.1 (by omega) hkp.1
        exact hs.2.2 e f he hf this hkp.2
theorem ke_inj' (hs : gS A) (he : thM A e) (hf : thM A f) (hk : keM A e = keM A f) : e = f := ke_inj hs 4 e f he hf (le_bd A e).2 hk
theorem bh_rec (hs : gS A) (ht : thM A f) : (A (23 * f + 2) = -1 ∧ bhM A f e = false) ∨ (brM A (A (23 * f + 2)) ∧ bhM A f e = (decide (e = A (23 * f + 2)) || bhM A (A (23 * f + 2)) e)) := by
  rcases le_rec hs ht with ⟨q, q1⟩ | ⟨q, q1⟩
  · refine Or.inl ⟨q, ?_⟩
    unfold bhM
    rw [q]
    rfl
  · refine Or.inr ⟨q, ?_⟩
    have hn : ¬ A (23 * f + 2) < 0 := by have := q.1.1; omega
    have h4 := (MU_up hs.1 ht).2
    simp only [upM] at h4
    unfold bhM
    rw [ab_more 3 _ _ (h4.resolve_left hn).2.2, abM, if_neg hn]
/-- what is behind a device has its keys right after it -/
theorem bh_ke (hs : gS A) : ∀ (n : Nat) (f : Int), thM A f → leM A f ≤ n → thM A e → bhM A f e = true → keM A e < keM A f ∧ keM A f + uN A f ≤ keM A e + uN A e ∧ leM A e < leM A f
  | n, f, ht, hl, he, hb => by
    have hr := sl_rg hs ht
    have cf := uN_cases A f
    rcases bh_rec (e := e) hs ht with ⟨q, q1⟩ | ⟨q, q1⟩
    · rw [q1] at hb
      exact absurd hb (by decide)
    · rcases ke_rec hs ht with ⟨r0, r1, r2⟩ | ⟨r0, r1, r2⟩
      · have := q.1.1
        omega
      · have hbp := le_bd A (A (23 * f + 2))
        have up := uN_cases A (A (23 * f + 2))
        have step : keM A (A (23 * f + 2)) < keM A f ∧ keM A f + uN A f ≤ keM A (A (23 * f + 2)) + uN A (A (23 * f + 2)) := by
          rcases cf with ⟨c0, c1⟩ | ⟨c0, c1⟩ | ⟨c0, c1⟩ | ⟨c0, c1⟩ | ⟨c0, c1⟩ <;> rcases up with ⟨d0, d1⟩ | ⟨d0, d1⟩ | ⟨d0, d1⟩ | ⟨d0, d1⟩ | ⟨d0, d1⟩ <;> first | (exfalso; omega) | (rw [c1] at r2 ⊢; rw [d1]; omega)
        rw [q1] at hb
        by_cases c : e = A (23 * f + 2)
        · rw [← c] at step r1
          omega
        · rw [decide_eq_false c, Bool.false_or] at hb
          match n, hl with
          | 0, hl => omega
          | n + 1, hl =>
            have := bh_ke hs n _ q.1 (by omega) he hb
            omega
theorem bh_ke' (hs : gS A) (hf : thM A f) (he : thM A e) (hb : bhM A f e = true) : keM A e < keM A f ∧ keM A f + uN A f ≤ keM A e + uN A e ∧ leM A e < leM A f := bh_ke hs 4 f hf (le_bd A f).2 he hb
end KY
