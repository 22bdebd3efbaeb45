/-! NEEDS: all buses of the reference -/
section EE
variable {A B S P D S' P' D' c c' c0 w N G N' G' τ : Int → Int} {on : Int → Bool} {e f a b k t x y v d i bu dv o nn gg m lv : Int} {l l' : List Int} {r r' : zLy}
theorem BrSp_congr (h : BrSp A on k S P D N G e) (hag : ∀ t, itP A on S k e t ∨ itP A on S' k e t → S t = S' t ∧ P t = P' t) (hD : ∀ t, itP A on S k e t → D t = D' t) (h60 : S (60 + e) = S' (60 + e) ∧ P (60 + e) = P' (60 + e)) (hN : N e = N' e ∧ G e = G' e) : BrSp A on k S' P' D' N' G' e := by
  obtain ⟨h1, h2, h3, h4⟩ := h
  refine ⟨ApSp_congr h1 hag, ?_, ?_, ?_⟩
  · rw [← hN.1, ← hN.2]
    exact BuSp_congr h2 hag hD
  · rw [← h60.1, ← hN.1]
    exact h3
  · rw [← h60.2, ← hN.2]
    exact h4
theorem NdS_congr (hon : ∀ e, on e = true → thM A e) (h : NdS A on k S P D N G) (hS : ∀ t : Int, 0 ≤ t → t < 80 → S t = S' t ∧ P t = P' t ∧ D t = D' t) (hN : ∀ e : Int, e = -1 ∨ (0 ≤ e ∧ e < 20) → N e = N' e ∧ G e = G' e) : NdS A on k S' P' D' N' G' := by
  have hag : ∀ a t, itP A on S k a t ∨ itP A on S' k a t → S t = S' t ∧ P t = P' t := fun a t ht => by
    have hr : 0 ≤ t ∧ t < 80 := by
      rcases ht with q | q
      · exact ⟨q.1, q.2.1⟩
      · exact ⟨q.1, q.2.1⟩
    have := hS t hr.1 hr.2
    exact ⟨this.1, this.2.1⟩
  obtain ⟨h1, h2, h3⟩ := h
  refine ⟨fun e he hb => ?_, ApSp_congr h2 (hag _), ?_⟩
  · have hr := th_rg (hon e he)
    have h60 := hS (60 + e) (by omega) (by omega)
    exact BrSp_congr (h1 e he hb) (hag e) (fun t ht => (hS t ht.1 ht.2.1).2.2) ⟨h60.1, h60.2.1⟩ (hN e (Or.inr hr))
  · obtain ⟨e1, e2⟩ := hN (-1) (Or.inl rfl)
    rw [← e1, ← e2]
    exact BuSp_congr h3 (hag _) (fun t ht => (hS t ht.1 ht.2.1).2.2)
/-- a bridge of the reference measured -/
def RfB (A : Int → Int) (on : Int → Bool) (k : Int) (r : zLy) (e : Int) : Prop := BrSp A on k (teS k r) (teP k r) (teD k r) (teN k r) (teG k r) e ∧ (0 ≤ teS k r (60 + e) ∧ teS k r (60 + e) ≤ bdS (4 - leM A e).toNat) ∧ ∃ q : Nat, q ≤ 8 ∧ teP k r (60 + e) = 2 ^ q
/-- what of the tables is of other kinds -/
def FrK (k : Int) (r r' : zLy) : Prop := (∀ j : Int, (j < 80 * k ∨ 80 * k + 80 ≤ j) → r'.2.2.2.1 j = r.2.2.2.1 j ∧ r'.2.2.2.2.1 j = r.2.2.2.2.1 j ∧ r'.2.2.1 j = r.2.2.1 j) ∧ ∀ j : Int, (j < 21 * k ∨ 21 * k + 21 ≤ j) → r'.1 j = r.1 j ∧ r'.2.1 j = r.2.1 j
theorem FrK_refl : FrK k r r := ⟨fun _ _ => ⟨rfl, rfl, rfl⟩, fun _ _ => ⟨rfl, rfl⟩⟩
theorem FrK_trans {r2 : zLy} (h : FrK k r r') (h' : FrK k r' r2) : FrK k r r2 := ⟨fun j hj => by
  obtain ⟨a1, a2, a3⟩ := h.1 j hj
  obtain ⟨b1, b2, b3⟩ := h'.1 j hj
  exact ⟨by rw [b1, a1], by rw [b2, a2], by rw [b3, a3]⟩, fun j hj => by
  obtain ⟨a1, a2⟩ := h.2 j hj
  obtain ⟨b1, b2⟩ := h'.2 j hj
  exact ⟨by rw [b1, a1], by rw [b2, a2]⟩⟩
theorem bf_rg (ha : a = -1 ∨ (0 ≤ a ∧ a < 20)) : 0 ≤ bfM a ∧ bfM a ≤ 20 := by
  unfold bfM
  split <;> omega
theorem bf_ne (ha : a = -1 ∨ (0 ≤ a ∧ a < 20)) (he : 0 ≤ e ∧ e < 20) (hne : e ≠ a) : bfM e ≠ bfM a := by
  unfold bfM
  split <;> split <;> omega
theorem LbF_FrK (ha : a = -1 ∨ (0 ≤ a ∧ a < 20)) (h : LbF A on k a r r') : FrK k r r' := by
  obtain ⟨h1, h2, h3⟩ := h
  have hb := bf_rg ha
  refine ⟨fun j hj => ?_, fun j hj => h3 j (by omega)⟩
  have e1 := h1 j (fun t ht _ q => by have := ht.1; have := ht.2.1; omega) (fun h0 q => by omega)
  exact ⟨e1.1, e1.2, h2 j (fun t ht q => by have := ht.1; have := ht.2.1; omega)⟩
/-- laying another bus leaves a bridge measured -/
theorem rf_keep (hon : ∀ e, on e = true → thM A e) (ha : a = -1 ∨ (0 ≤ a ∧ a < 20)) (h : LbF A on k a r r') (he : on e = true) (hne : e ≠ a) (hp : 0 ≤ a → A (23 * a + 2) ≠ e) (hR : RfB A on k r e) : RfB A on k r' e := by
  obtain ⟨h1, h2, h3⟩ := h
  obtain ⟨b1, b2, b3⟩ := hR
  have hr := th_rg (hon e he)
  have hco : ∀ t, A (23 * deM t + 2) = e → ∀ u, itP A on (teS k r) k a u → 80 * k + t ≠ 80 * k + u := fun t ht u hu q => by
    have : t = u := by omega
    rw [this] at ht
    have := hu.2.2.2.1
    omega
  have hag : ∀ t, itP A on (teS k r) k e t ∨ itP A on (teS k r') k e t → teS k r t = teS k r' t ∧ teP k r t = teP k r' t := fun t ht => by
    have hc : A (23 * deM t + 2) = e := by
      rcases ht with q | q
      · exact q.2.2.2.1
      · exact q.2.2.2.1
    have := h1 (80 * k + t) (fun u hu _ => hco t hc u hu) (fun h0 q => by
      have e1 : t = 60 + a := by omega
      rw [e1, (de_br h0).1] at hc
      exact hp h0 hc)
    exact ⟨this.1.symm, this.2.symm⟩
  have h60 := h1 (80 * k + (60 + e)) (fun u hu h6 q => by omega) (fun h0 q => hne (by omega))
  have hN := h3 (21 * k + bfM e) (fun q => bf_ne ha hr hne (by omega))
  refine ⟨BrSp_congr b1 hag (fun t ht => (h2 (80 * k + t) (fun u hu => hco t ht.2.2.2.1 u hu)).symm) ⟨h60.1.symm, h60.2.symm⟩ ⟨hN.1.symm, hN.2.symm⟩, ?_, ?_⟩
  · show 0 ≤ r'.2.2.2.1 (80 * k + (60 + e)) ∧ r'.2.2.2.1 (80 * k + (60 + e)) ≤ _
    rw [h60.1]
    exact b2
  · show ∃ q : Nat, q ≤ 8 ∧ r'.2.2.2.2.1 (80 * k + (60 + e)) = 2 ^ q
    rw [h60.2]
    exact b3
theorem dk_step (h : LbF A on k a r r') (hb : ∀ t, itP A on (teS k r) k a t → 0 ≤ teD k r' t ∧ teD k r' t ≤ 1000000000) (hD : DK r.2.2.1) : DK r'.2.2.1 := fun j j0 j1 => by
  by_cases q : ∃ t, itP A on (teS k r) k a t ∧ j = 80 * k + t
  · obtain ⟨t, ht, rfl⟩ := q
    exact hb t ht
  · rw [h.2.1 j (fun t ht r => q ⟨t, ht, r⟩)]
    exact hD j j0 j1
/-- a bridge's bus is laid -/
theorem rf_step (g : gT A) (hon : ∀ e, on e = true → thM A e) {dn : Int → Prop} (hd : ∀ e, on e = true → A (23 * e + 1) = 1 → dn e → RfB A on k r e) (hb : on b = true) (hb1 : A (23 * b + 1) = 1) (hch : ∀ x, on x = true → A (23 * x + 1) = 1 → A (23 * x + 2) = b → dn x) (hnb : ¬ dn b) (hpp : ∀ e, on e = true → dn e → A (23 * b + 2) ≠ e) : LbP A on k b r ∧ (∀ e, on e = true → A (23 * e + 1) = 1 → dn e ∨ e = b → RfB A on k (lbR A on k b r) e) ∧ FrK k r (lbR A on k b r) ∧ (DK r.2.2.1 → DK (lbR A on k b r).2.2.1) := by
  have hs := gT_S g
  have hth := hon b hb
  have hr := th_rg hth
  have hlv := leM_bd (A := A) (e := b)
  have ha : b = -1 ∨ (0 ≤ b ∧ b < 20) := Or.inr hr
  have ebf : bfM b = b := if_neg (by omega)
  have hmm : ∃ m : Int, (0 ≤ m ∧ m ≤ 8000000) ∧ (leM A b = 4 ∨ m = bdS (4 - (leM A b + 1)).toNat) ∧ ∀ t, itP A on (teS k r) k b t → ¬ t < 60 → (0 ≤ teS k r t ∧ teS k r t ≤ m) ∧ ∃ q : Nat, q ≤ 8 ∧ teP k r t = 2 ^ q := by
    by_cases h4 : leM A b = 4
    · refine ⟨0, by omega, Or.inl h4, fun t ht _ => ?_⟩
      have := it_lev hs hon ht hr.1
      have := leM_bd (A := A) (e := deM t)
      omega
    · refine ⟨_, ?_, Or.inr rfl, fun t ht h6 => ?_⟩
      · have := bdS_le (v := leM A b + 1) (by omega)
        omega
      · have hl := it_lev hs hon ht hr.1
        obtain ⟨e1, e2⟩ := it_br ht h6
        obtain ⟨-, q2, q3⟩ := hd _ ht.2.2.1 e2 (hch _ ht.2.2.1 e2 ht.2.2.2.1)
        rw [hl, ← e1] at q2
        rw [← e1] at q3
        exact ⟨q2, q3⟩
  obtain ⟨m, hm, hm2, hbr⟩ := hmm
  obtain ⟨p1, p2, p3, p4, p5, p6, p7, p8⟩ := lb_sp (m := m) g hon ha hm hbr
  rw [ebf] at p1 p2 p3 p4 p5 p6 p7 p8
  generalize lbR A on k b r = R at *
  have p4 := p4 hr.1
  have h16 := (g.1 b hr.1 hr.2).2.2.2.2.2.2.2.1
  have hNb : 0 ≤ teN k R b ∧ teN k R b + 143 ≤ bdS (4 - leM A b).toNat := by
    rcases hm2 with h4 | h4
    · obtain ⟨l, l1, l2, l3, l4⟩ := p3
      have hnil : l = [] := by
        cases l with
        | nil => rfl
        | cons t l =>
          have ht := (l1.2 t).mp List.mem_cons_self
          have := it_lev hs hon ht hr.1
          have := leM_bd (A := A) (e := deM t)
          omega
      rw [l3, hnil, h4, show ((4 : Int) - 4).toNat = 0 from rfl, bdS_v.1]
      have e0 : lyE (teS k R) (teP k R) [] 0 = 0 := rfl
      omega
    · by_cases h44 : leM A b = 4
      · rw [h44] at h4
        obtain ⟨l, l1, l2, l3, l4⟩ := p3
        have hnil : l = [] := by
          cases l with
          | nil => rfl
          | cons t l =>
            have ht := (l1.2 t).mp List.mem_cons_self
            have := it_lev hs hon ht hr.1
            have := leM_bd (A := A) (e := deM t)
            omega
        rw [l3, hnil, h44, show ((4 : Int) - 4).toNat = 0 from rfl, bdS_v.1]
        have e0 : lyE (teS k R) (teP k R) [] 0 = 0 := rfl
        omega
      · have eb : bdS (4 - leM A b).toNat = 8 * (1536 + bdS (4 - (leM A b + 1)).toNat) + 143 := by
          rw [show (4 - leM A b).toNat = (4 - (leM A b + 1)).toNat + 1 by omega]
          rfl
        omega
  refine ⟨p1, fun e he hbe hde => ?_, LbF_FrK ha p8, fun hD => dk_step p8 (fun t ht => ?_) hD⟩
  · by_cases q : e = b
    · subst q
      refine ⟨⟨p2, p3, p4⟩, ?_, ?_⟩
      · rw [p4.1]
        have := rupM_bd (v := teN k R e + A (23 * e + 16)) (s := 16) (by omega) (by omega)
        omega
      · rw [p4.2]
        exact max_pow p6
    · have hde' := hde.resolve_right q
      exact rf_keep hon ha p8 he q (fun _ => hpp e he hde') (hd e he hbe hde')
  · have := p7 t ht
    omega
theorem rf_lv (g : gT A) (hon : ∀ e, on e = true → thM A e) : ∀ (n : Nat) (e : Int) (r : zLy), 0 ≤ e → e + n = 20 → (∀ x, on x = true → A (23 * x + 1) = 1 → lv < leM A x ∨ (leM A x = lv ∧ x < e) → RfB A on k r x) → LdP A on k lv n e r ∧ (∀ x, on x = true → A (23 * x + 1) = 1 → lv ≤ leM A x → RfB A on k (lp (lnD A on k lv) n e r) x) ∧ FrK k r (lp (lnD A on k lv) n e r) ∧ (DK r.2.2.1 → DK (lp (lnD A on k lv) n e r).2.2.1)
  | 0, e, r, e0, e1, h => ⟨trivial, fun x hx hb hl => h x hx hb (by
      have := th_rg (hon x hx)
      omega), FrK_refl, id⟩
  | n + 1, e, r, e0, e1, h => by
    have hs := gT_S g
    have eP : LdP A on k lv (n + 1) e r = ((lnB A on lv e → LbP A on k e r) ∧ LdP A on k lv n (e + 1) (lnD A on k lv e r)) := rfl
    rw [eP]
    simp only [lp]
    by_cases q : lnB A on lv e
    · have ec : lnD A on k lv e r = lbR A on k e r := if_pos q
      obtain ⟨q1, q2, q3⟩ := id q
      obtain ⟨s1, s2, s3, s4⟩ := rf_step (b := e) (k := k) (r := r) (dn := fun x => lv < leM A x ∨ (leM A x = lv ∧ x < e)) g hon h q1 q2 (fun x hx hbx hp => by
        rcases le_rec hs (hon x hx) with ⟨u1, u2⟩ | ⟨u1, u2⟩
        · omega
        · rw [hp] at u2
          exact Or.inl (by omega)) (fun s => by omega) (fun x hx hd hp => by
        rcases le_rec hs (hon e q1) with ⟨u1, u2⟩ | ⟨u1, u2⟩
        · have := (hon x hx).1
          omega
        · rw [hp] at u2
          omega)
      rw [ec]
      obtain ⟨i1, i2, i3, i4⟩ := rf_lv g hon n (e + 1) (lbR A on k e r) (by omega) (by omega) (fun x hx hbx hd => s2 x hx hbx (by omega))
      exact ⟨⟨fun _ => s1, i1⟩, i2, FrK_trans s3 i3, fun hD => i4 (s4 hD)⟩
    · have ec : lnD A on k lv e r = r := if_neg q
      rw [ec]
      obtain ⟨i1, i2, i3, i4⟩ := rf_lv g hon n (e + 1) r (by omega) (by omega) (fun x hx hbx hd => h x hx hbx (by
        rcases hd with v | v
        · exact Or.inl v
        · by_cases u : x = e
          · rw [u] at hx hbx v
            exact absurd ⟨hx, hbx, v.1⟩ q
          · exact Or.inr ⟨v.1, by omega⟩))
      exact ⟨⟨fun s => absurd s q, i1⟩, i2, i3, i4⟩
theorem rf_L (g : gT A) (hon : ∀ e, on e = true → thM A e) : ∀ (n : Nat) (r : zLy), (∀ x, on x = true → A (23 * x + 1) = 1 → (n : Int) ≤ leM A x → RfB A on k r x) → LlP A on k n r ∧ (∀ x, on x = true → A (23 * x + 1) = 1 → RfB A on k (lnL A on k n r) x) ∧ FrK k r (lnL A on k n r) ∧ (DK r.2.2.1 → DK (lnL A on k n r).2.2.1)
  | 0, r, h => ⟨trivial, fun x hx hb => h x hx hb (leM_bd (A := A) (e := x)).1, FrK_refl, id⟩
  | n + 1, r, h => by
    obtain ⟨s1, s2, s3, s4⟩ := rf_lv (k := k) (lv := (n : Nat)) g hon 20 0 r (Int.le_refl _) (by omega) (fun x hx hb hd => h x hx hb (by
      have := th_rg (hon x hx)
      omega))
    have eP : LlP A on k (n + 1) r = (LdP A on k (n : Nat) 20 0 r ∧ LlP A on k n (lp (lnD A on k (n : Nat)) 20 0 r)) := rfl
    have eL : lnL A on k (n + 1) r = lnL A on k n (lp (lnD A on k (n : Nat)) 20 0 r) := rfl
    obtain ⟨i1, i2, i3, i4⟩ := rf_L g hon n (lp (lnD A on k (n : Nat)) 20 0 r) s2
    rw [eP, eL]
    exact ⟨⟨s1, i1⟩, i2, FrK_trans s3 i3, fun hD => i4 (s4 hD)⟩
/-- the tables of a kind are the needs -/
def NdK (A : Int → Int) (on : Int → Bool) (k : Int) (r : zLy) : Prop := NdS A on k (teS k r) (teP k r) (teD k r) (teN k r) (teG k r) ∧ (∀ e, on e = true → A (23 * e + 1) = 1 → (0 ≤ teS k r (60 + e) ∧ teS k r (60 + e) ≤ 8000000) ∧ ∃ q : Nat, q ≤ 8 ∧ teP k r (60 + e) = 2 ^ q) ∧ (0 ≤ teN k r (-1) ∧ teN k r (-1) ≤ 100000000)
theorem rf_K (g : gT A) (hon : ∀ e, on e = true → thM A e) : LnP A on k r ∧ NdK A on k (lnK A on k r) ∧ FrK k r (lnK A on k r) ∧ (DK r.2.2.1 → DK (lnK A on k r).2.2.1) := by
  obtain ⟨i1, i2, i3, i4⟩ := rf_L (k := k) g hon 5 r (fun x hx hb hl => by
    have := leM_bd (A := A) (e := x)
    omega)
  have e20 : bfM (-1) = 20 := rfl
  have eP : LnP A on k r = (LlP A on k 5 r ∧ LbP A on k 20 (lnL A on k 5 r)) := rfl
  have eK : lnK A on k r = lbR A on k 20 (lnL A on k 5 r) := rfl
  have b8 : ∀ x, bdS (4 - leM A x).toNat ≤ 7857863 := fun x => (bdS_le (leM_bd (A := A) (e := x))).2
  obtain ⟨p1, p2, p3, p4, p5, p6, p7, p8⟩ := lb_sp (a := -1) (k := k) (r := lnL A on k 5 r) (m := 7857863) g hon (Or.inl rfl) (by omega) (fun t ht h6 => by
    obtain ⟨e1, e2⟩ := it_br ht h6
    obtain ⟨-, q2, q3⟩ := i2 _ ht.2.2.1 e2
    have := b8 (deM t)
    rw [← e1] at q2 q3
    exact ⟨by omega, q3⟩)
  rw [e20] at p1 p2 p3 p4 p5 p6 p7 p8
  rw [eP, eK]
  have hR : ∀ e, on e = true → A (23 * e + 1) = 1 → RfB A on k (lbR A on k 20 (lnL A on k 5 r)) e := fun e he hb => rf_keep hon (Or.inl rfl) p8 he (by
    have := (hon e he).1
    omega) (fun h0 => by omega) (i2 e he hb)
  refine ⟨⟨i1, p1⟩, ⟨⟨fun e he hb => (hR e he hb).1, p2, p3⟩, fun e he hb => ?_, by omega⟩, FrK_trans i3 (LbF_FrK (Or.inl rfl) p8), fun hD => dk_step p8 (fun t ht => ?_) (i4 hD)⟩
  · obtain ⟨-, q2, q3⟩ := hR e he hb
    have := b8 e
    exact ⟨by omega, q3⟩
  · have := p7 t ht
    omega
theorem NdK_fr (hon : ∀ e, on e = true → thM A e) (h : NdK A on 0 r) (hF : FrK 1 r r') : NdK A on 0 r' := by
  obtain ⟨h1, h2, h3⟩ := h
  have hS : ∀ t : Int, 0 ≤ t → t < 80 → teS 0 r t = teS 0 r' t ∧ teP 0 r t = teP 0 r' t ∧ teD 0 r t = teD 0 r' t := fun t t0 t1 => by
    obtain ⟨q1, q2, q3⟩ := hF.1 (80 * 0 + t) (by omega)
    exact ⟨q1.symm, q2.symm, q3.symm⟩
  have hN : ∀ e : Int, e = -1 ∨ (0 ≤ e ∧ e < 20) → teN 0 r e = teN 0 r' e ∧ teG 0 r e = teG 0 r' e := fun e he => by
    have hb := bf_rg he
    obtain ⟨q1, q2⟩ := hF.2 (21 * 0 + bfM e) (by omega)
    exact ⟨q1.symm, q2.symm⟩
  refine ⟨NdS_congr hon h1 hS hN, fun e he hb => ?_, ?_⟩
  · have hr := th_rg (hon e he)
    have := hS (60 + e) (by omega) (by omega)
    rw [← this.1, ← this.2.1]
    exact h2 e he hb
  · rw [← (hN (-1) (Or.inl rfl)).1]
    exact h3
/-- the reference's needs are the needs -/
theorem rf_N (g : gT A) (hon : ∀ e, on e = true → thM A e) : LnP A on 0 r ∧ LnP A on 1 (lnK A on 0 r) ∧ (∀ k : Int, 0 ≤ k → k < 2 → NdK A on k (lnN A on r)) ∧ (DK r.2.2.1 → DK (lnN A on r).2.2.1) := by
  obtain ⟨a1, a2, a3, a4⟩ := rf_K (k := 0) (r := r) g hon
  obtain ⟨b1, b2, b3, b4⟩ := rf_K (k := 1) (r := lnK A on 0 r) g hon
  have eN : lnN A on r = lnK A on 1 (lnK A on 0 r) := rfl
  rw [eN]
  refine ⟨a1, b1, fun k k0 k1 => ?_, fun hD => b4 (a4 hD)⟩
  rcases (show k = 0 ∨ k = 1 by omega) with rfl | rfl
  · exact NdK_fr hon a2 b3
  · exact b2
theorem rf_P (g : gT A) (hon : ∀ e, on e = true → thM A e) : NdP A on r := by
  obtain ⟨a1, a2, -, -⟩ := rf_N (r := r) g hon
  exact ⟨g.1, g.2.1, fun e _ _ he => hon e he, a1, a2⟩
end EE
