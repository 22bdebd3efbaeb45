/-! POWER-UP: the reference lays all down, level by level -/
section FI1
variable {X Y : zM} {c c' A B C Ao S D : Int → Int} {e f a b k t x v n N d i q bu dv lv : Int} {on on' : Int → Bool} {r : zLy} {m : Nat} {dn dn' : Int → Prop}
/-- all that is known when things are laid down -/
def LdG (A Ao : Int → Int) (on : Int → Bool) (r : zLy) : Prop := gT A ∧ (∀ e, on e = true → thM A e) ∧ NoR A on ∧ (∀ k : Int, 0 ≤ k → k < 2 → NdK A on k r ∧ teN k r (-1) ≤ A (460 + k)) ∧ RwC A ∧ Ao = lp (onF on) 20 0 A
theorem LdG_sp (h : LdG A Ao on r) (hk : 0 ≤ k ∧ k < 2) : teN k r (-1) ≤ 1024 := by
  have h1 := (h.2.2.2.1 k hk.1 hk.2).2
  have h2 := (h.1.2.2.2.1 k hk.1 hk.2).2
  omega
theorem ld_ap (h : LdG A Ao on r) (hx : on x = true) (a0 : 0 ≤ a) (a1 : a < A (23 * x + 5)) : (0 ≤ A (23 * x + (6 + a)) ∧ A (23 * x + (6 + a)) < 2) ∧ itP A on (teS (A (23 * x + (6 + a))) r) (A (23 * x + (6 + a))) (A (23 * x + 2)) (3 * x + a) := by
  have hth := h.2.1 x hx
  have hr := th_rg hth
  have h5 := MG_many h.1.1 hr
  have hk := (h.1.1 x hr.1 hr.2).2.2.2.2.2.1 a a0 (by omega)
  obtain ⟨d1, d2, d3, d4⟩ := de_ap hr.1 hr.2 a0 (show a < 3 by omega)
  refine ⟨by omega, by omega, by omega, by rw [d1]; exact hx, by rw [d1], ?_⟩
  rw [if_pos d4, d1, d3]
  exact ⟨a1, rfl⟩
theorem ld_br (h : LdG A Ao on r) (hx : on x = true) (hb : A (23 * x + 1) = 1) (h0 : teS k r (60 + x) ≠ 0) : itP A on (teS k r) k (A (23 * x + 2)) (60 + x) := by
  have hr := th_rg (h.2.1 x hx)
  have hd := de_br hr.1
  refine ⟨by omega, by omega, by rw [hd.1]; exact hx, by rw [hd.1], ?_⟩
  rw [if_neg hd.2.2, hd.1]
  exact ⟨hb, h0⟩
/-- rows of the table that says who is ON -/
theorem ao_row (h : LdG A Ao on r) (e0 : 0 ≤ e) (e1 : e < 20) (f0 : 0 ≤ f) (f1 : f < 23) : Ao (23 * e + f) = if on e = true then (if f = 4 then 1 else A (23 * e + f)) else if thM A e then ofv f (A (23 * e + f)) else A (23 * e + f) := by
  obtain ⟨g1, -⟩ := on_row (on := on) 20 0 A (Int.le_refl _) (by omega)
  rw [h.2.2.2.2.2, g1 e f f0 f1, if_pos (by omega)]
theorem ao_st (h : LdG A Ao on r) : StR A Ao := fun e f e0 e1 hf => by
  unfold StF at hf
  rw [ao_row h e0 e1 hf.1 hf.2.1]
  unfold ofv
  (repeat' split) <;> first | rfl | omega
theorem ao_MG (h : LdG A Ao on r) : MG Ao := MG_frame h.1.1 (fun e e0 e1 => by
  by_cases c1 : on e = true
  · right
    have hv : ∀ f : Int, 0 ≤ f → f < 23 → f ≠ 4 → Ao (23 * e + f) = A (23 * e + f) := fun f f0 f1 f4 => by rw [ao_row h e0 e1 f0 f1, if_pos c1, if_neg f4]
    have h4 : Ao (23 * e + 4) = 1 := by rw [ao_row h e0 e1 (by omega) (by omega), if_pos c1, if_pos rfl]
    obtain ⟨m1, m2, m3, m4, m5, m6, m7, m8, m9, m10, m11⟩ := h.1.1 e e0 e1
    unfold MGr
    rw [h4, hv 1 (by omega) (by omega) (by omega), hv 2 (by omega) (by omega) (by omega), hv 3 (by omega) (by omega) (by omega), hv 5 (by omega) (by omega) (by omega), hv 15 (by omega) (by omega) (by omega), hv 16 (by omega) (by omega) (by omega), hv 17 (by omega) (by omega) (by omega), hv 18 (by omega) (by omega) (by omega)]
    refine ⟨m1, m2, m3, ⟨by omega, by omega⟩, m5, fun x x0 x1 => ?_, m7, m8, m9, m10, fun k k0 k1 => ?_⟩
    · rw [hv _ (by omega) (by omega) (by omega), hv _ (by omega) (by omega) (by omega), hv _ (by omega) (by omega) (by omega)]
      exact m6 x x0 x1
    · rw [hv _ (by omega) (by omega) (by omega), hv _ (by omega) (by omega) (by omega)]
      exact m11 k k0 k1
  · by_cases c2 : thM A e
    · right
      have hv : ∀ f : Int, 0 ≤ f → f < 23 → Ao (23 * e + f) = ofv f (A (23 * e + f)) := fun f f0 f1 => by rw [ao_row h e0 e1 f0 f1, if_neg c1, if_pos c2]
      obtain ⟨m1, m2, m3, m4, m5, m6, m7, m8, m9, m10, m11⟩ := h.1.1 e e0 e1
      unfold MGr
      rw [hv 1 (by omega) (by omega), hv 2 (by omega) (by omega), hv 3 (by omega) (by omega), hv 4 (by omega) (by omega), hv 5 (by omega) (by omega), hv 15 (by omega) (by omega), hv 16 (by omega) (by omega), hv 17 (by omega) (by omega), hv 18 (by omega) (by omega)]
      refine ⟨m1, m2, m3, ⟨show (0 : Int) ≤ 0 by omega, show (0 : Int) ≤ 1 by omega⟩, m5, fun x x0 x1 => ?_, m7, m8, ⟨show (-1 : Int) ≤ -1 by omega, show (-1 : Int) ≤ 31 by omega⟩, ⟨show (-1 : Int) ≤ -1 by omega, show (-1 : Int) ≤ 31 by omega⟩, fun k k0 k1 => ?_⟩
      · have := m6 x x0 x1
        rw [hv _ (by omega) (by omega), hv _ (by omega) (by omega), hv _ (by omega) (by omega)]
        unfold ofv
        refine ⟨?_, ?_, ?_⟩ <;> (repeat' split) <;> omega
      · have := m11 k k0 k1
        rw [hv _ (by omega) (by omega), hv _ (by omega) (by omega)]
        unfold ofv
        refine ⟨?_, ?_⟩ <;> (repeat' split) <;> omega
    · left
      intro f f0 f1
      rw [ao_row h e0 e1 f0 f1, if_neg c1, if_neg c2])
/-- what of a row is laid down -/
theorem fn_vals (h : LdG A Ao on r) (hx : on x = true) : (∀ a : Int, 0 ≤ a → a < A (23 * x + 5) → fnV A Ao r x (12 + a) = liP A (teD (A (23 * x + (6 + a))) r) (3 * x + a)) ∧ (A (23 * x + 1) = 1 → ∀ k : Int, 0 ≤ k → k < 2 → fnV A Ao r x (19 + k) = (if teS k r (60 + x) = 0 then -1 else liP A (teD k r) (60 + x)) ∧ fnV A Ao r x (21 + k) = teS k r (60 + x)) ∧ ∀ f : Int, (∀ a : Int, 0 ≤ a → a < A (23 * x + 5) → f ≠ 12 + a) → (A (23 * x + 1) = 1 → f ≠ 19 ∧ f ≠ 20 ∧ f ≠ 21 ∧ f ≠ 22) → fnV A Ao r x f = Ao (23 * x + f) := by
  have hr := th_rg (h.2.1 x hx)
  have h5 := MG_many h.1.1 hr
  refine ⟨fun a a0 a1 => ?_, fun hb k k0 k1 => ⟨?_, ?_⟩, fun f h1 h2 => ?_⟩
  · unfold fnV
    rw [if_pos (by omega), show 12 + a - 6 = 6 + a by omega, show 12 + a - 12 = a by omega]
  · unfold fnV
    rw [if_neg (by omega), if_pos ⟨hb, by omega⟩, show 19 + k - 19 = k by omega]
  · unfold fnV
    rw [if_neg (by omega), if_neg (by omega), if_pos ⟨hb, by omega⟩, show 21 + k - 21 = k by omega]
  · unfold fnV
    rw [if_neg (fun q => h1 (f - 12) (by omega) (by omega) (by omega)), if_neg (fun q => by
      have := h2 q.1
      omega), if_neg (fun q => by
      have := h2 q.1
      omega)]
theorem ld_bd (h : LdG A Ao on r) (hk : 0 ≤ k ∧ k < 2) (ht : itP A on (teS k r) k a t) : 0 ≤ liP A (teD k r) t ∧ liP A (teD k r) t + teS k r t ≤ 1024 ∧ 1 ≤ teS k r t := by
  obtain ⟨h1, h2, h3, h4, h5, h6⟩ := id h
  obtain ⟨u1, -⟩ := ps_bd' h1 h2 h3 (h4 k hk.1 hk.2).1 (LdG_sp h hk) ht
  obtain ⟨v1, -, -⟩ := nd_bus h1 h2 (h4 k hk.1 hk.2).1 (it_bus h3 ht)
  have := (v1 t ht).1.1
  omega
theorem LdI_MG (h : LdG A Ao on r) (hI : LdI A Ao on r dn C) : MG C := MG_frame (ao_MG h) (fun e e0 e1 => by
  obtain ⟨i1, i2, i3⟩ := hI
  by_cases q : on e = true ∧ dn e
  · right
    obtain ⟨v1, v2, v3⟩ := fn_vals h q.1
    have hC : ∀ f : Int, 0 ≤ f → f < 23 → C (23 * e + f) = fnV A Ao r e f := fun f f0 f1 => i1 e f q.1 q.2 f0 f1
    have h5 := MG_many h.1.1 ⟨e0, e1⟩
    have hsame : ∀ f : Int, 0 ≤ f → f < 23 → (f < 12 ∨ (14 < f ∧ f < 19)) → C (23 * e + f) = Ao (23 * e + f) := fun f f0 f1 hf => by
      rw [hC f f0 f1, v3 f (fun a a0 a1 => by omega) (fun _ => by omega)]
    obtain ⟨m1, m2, m3, m4, m5, m6, m7, m8, m9, m10, m11⟩ := ao_MG h e e0 e1
    unfold MGr
    rw [hsame 1 (by omega) (by omega) (by omega), hsame 2 (by omega) (by omega) (by omega), hsame 3 (by omega) (by omega) (by omega), hsame 4 (by omega) (by omega) (by omega), hsame 5 (by omega) (by omega) (by omega), hsame 15 (by omega) (by omega) (by omega), hsame 16 (by omega) (by omega) (by omega), hsame 17 (by omega) (by omega) (by omega), hsame 18 (by omega) (by omega) (by omega)]
    refine ⟨m1, m2, m3, m4, m5, fun x x0 x1 => ?_, m7, m8, m9, m10, fun k k0 k1 => ?_⟩
    · rw [hsame _ (by omega) (by omega) (by omega), hsame _ (by omega) (by omega) (by omega)]
      have h6 := m6 x x0 x1
      refine ⟨h6.1, h6.2.1, ?_⟩
      by_cases u : x < A (23 * e + 5)
      · obtain ⟨w1, w2⟩ := ld_ap h q.1 x0 u
        have hb := ld_bd h w1 w2
        rw [hC _ (by omega) (by omega), v1 x x0 u]
        omega
      · rw [hC _ (by omega) (by omega), v3 _ (fun a a0 a1 => by omega) (fun _ => by omega)]
        exact h6.2.2
    · have h11 := m11 k k0 k1
      by_cases hb : A (23 * e + 1) = 1
      · obtain ⟨w1, w2⟩ := v2 hb k k0 k1
        rw [hC _ (by omega) (by omega), hC _ (by omega) (by omega), w1, w2]
        by_cases hz : teS k r (60 + e) = 0
        · rw [if_pos hz, hz]
          omega
        · rw [if_neg hz]
          have := ld_bd h ⟨k0, k1⟩ (ld_br h q.1 hb hz)
          omega
      · rw [hC _ (by omega) (by omega), hC _ (by omega) (by omega), v3 _ (fun a a0 a1 => by omega) (fun s => absurd s hb), v3 _ (fun a a0 a1 => by omega) (fun s => absurd s hb)]
        exact h11
  · left
    intro f f0 f1
    exact i2 e f e0 e1 f0 f1 q)
/-- what isn't laid down is as it was -/
theorem LdI_st (h : LdG A Ao on r) (hI : LdI A Ao on r dn C) (e0 : 0 ≤ e) (e1 : e < 20) (f0 : 0 ≤ f) (f1 : f < 23) (hf : f < 12 ∨ (14 < f ∧ f < 19)) : C (23 * e + f) = Ao (23 * e + f) := by
  obtain ⟨i1, i2, i3⟩ := hI
  by_cases q : on e = true ∧ dn e
  · obtain ⟨v1, v2, v3⟩ := fn_vals h q.1
    have h5 := MG_many h.1.1 ⟨e0, e1⟩
    rw [i1 e f q.1 q.2 f0 f1, v3 f (fun a a0 a1 => by omega) (fun _ => by omega)]
  · exact i2 e f e0 e1 f0 f1 q
theorem LdI_StR (h : LdG A Ao on r) (hI : LdI A Ao on r dn C) : StR A C := fun e f e0 e1 hf => by
  have hf' := hf
  unfold StF at hf'
  rw [LdI_st h hI e0 e1 hf'.1 hf'.2.1 (by omega)]
  exact ao_st h e f e0 e1 hf
theorem LdI_on (h : LdG A Ao on r) (hI : LdI A Ao on r dn C) : onM C e ↔ on e = true := by
  have hst := StR_4 (LdI_StR h hI)
  constructor
  · rintro ⟨q1, q2⟩
    have ht := (Sh4_th hst).mp q1
    have hr := th_rg ht
    rw [LdI_st h hI hr.1 hr.2 (by omega) (by omega) (by omega), ao_row h hr.1 hr.2 (by omega) (by omega)] at q2
    refine Decidable.byContradiction fun c1 => ?_
    rw [if_neg c1, if_pos ht] at q2
    exact absurd (show (0 : Int) = 1 from q2) (by decide)
  · intro q
    have ht := h.2.1 e q
    have hr := th_rg ht
    refine ⟨(Sh4_th hst).mpr ht, ?_⟩
    rw [LdI_st h hI hr.1 hr.2 (by omega) (by omega) (by omega), ao_row h hr.1 hr.2 (by omega) (by omega), if_pos q, if_pos rfl]
/-- one more device is laid down -/
theorem ld_step (h : LdG A Ao on r) (hI : LdI A Ao on r dn C) (he : on e = true) (hne : ¬ dn e) (hp : A (23 * e + 2) = -1 ∨ dn (A (23 * e + 2))) : LdI A Ao on r (fun x => dn x ∨ x = e) (ldR r.2.2.1 r.2.2.2.1 e C) := by
  have hMC := LdI_MG h hI
  obtain ⟨h1, h2, h3, h4, h5, h6⟩ := id h
  obtain ⟨i1, i2, i3⟩ := id hI
  have hth := h2 e he
  have hr := th_rg hth
  have hst := LdI_StR h hI
  obtain ⟨r1, r2, r3⟩ := ldR_row (D := r.2.2.1) (S := r.2.2.2.1) hr hMC
  have s1 : C (23 * e + 1) = A (23 * e + 1) := hst e 1 hr.1 hr.2 (by unfold StF; omega)
  have s2 : C (23 * e + 2) = A (23 * e + 2) := hst e 2 hr.1 hr.2 (by unfold StF; omega)
  have s5 : C (23 * e + 5) = A (23 * e + 5) := hst e 5 hr.1 hr.2 (by unfold StF; omega)
  have hm5 := MG_many h1.1 hr
  rw [s1, s2] at r2
  rw [s1, s5] at r3
  rw [s2, s5] at r1
  -- where a thing of this device lies
  have hpos : ∀ k t, 0 ≤ k → k < 2 → itP A on (teS k r) k (A (23 * e + 2)) t → bsX C (A (23 * e + 2)) k + teD k r t = liP A (teD k r) t := fun k t k0 k1 ht => by
    by_cases q : A (23 * e + 2) = -1
    · have hrec := ps_rec (D := teD k r) (gT_S h1) (h2 _ ht.2.2.1)
      rw [ht.2.2.2.1, if_pos q] at hrec
      unfold bsX
      rw [if_pos (by omega), hrec]
      omega
    · obtain ⟨-, u2⟩ := ps_bd' h1 h2 h3 (h4 k k0 k1).1 (LdG_sp h ⟨k0, k1⟩) ht
      obtain ⟨v1, v2, -, -⟩ := u2 q
      obtain ⟨po, pb⟩ := (it_bus h3 ht).resolve_left q
      have hpr := th_rg (h2 _ po)
      have hdp := de_br hpr.1
      have hS : teS k r (60 + A (23 * e + 2)) ≠ 0 := by
        have := v1.2.2.2.2
        rw [if_neg hdp.2.2] at this
        exact this.2
      obtain ⟨-, w2, -⟩ := fn_vals h po
      have e19 : C (23 * A (23 * e + 2) + (19 + k)) = liP A (teD k r) (60 + A (23 * e + 2)) := by
        rw [i1 _ _ po (hp.resolve_left q) (by omega) (by omega), (w2 pb k k0 k1).1, if_neg hS]
      unfold bsX
      rw [if_neg (by omega), e19, v2]
  refine ⟨fun x f hx hd f0 f1 => ?_, fun x f x0 x1 f0 f1 hn => ?_, fun j hj => ?_⟩
  · by_cases q : x = e
    · subst q
      obtain ⟨v1, v2, v3⟩ := fn_vals h hx
      by_cases c1 : 12 ≤ f ∧ f < 12 + A (23 * x + 5)
      · obtain ⟨a, rfl⟩ : ∃ a : Int, f = 12 + a := ⟨f - 12, by omega⟩
        have s6 : C (23 * x + (6 + a)) = A (23 * x + (6 + a)) := hst x _ hr.1 hr.2 (by unfold StF; omega)
        obtain ⟨w1, w2⟩ := ld_ap h hx (show 0 ≤ a by omega) (by omega)
        rw [v1 a (by omega) (by omega), r1 a (by omega) (by omega), s6]
        exact hpos _ _ w1.1 w1.2 w2
      · by_cases c2 : A (23 * x + 1) = 1 ∧ (19 ≤ f ∧ f ≤ 22)
        · obtain ⟨hb, hf⟩ := c2
          by_cases c3 : f < 21
          · obtain ⟨k, rfl⟩ : ∃ k : Int, f = 19 + k := ⟨f - 19, by omega⟩
            rw [(v2 hb k (by omega) (by omega)).1, (r2 hb k (by omega) (by omega)).2]
            by_cases hz : teS k r (60 + x) = 0
            · rw [if_pos hz, if_pos hz]
            · rw [if_neg hz, if_neg hz]
              exact hpos k _ (by omega) (by omega) (ld_br h hx hb hz)
          · obtain ⟨k, rfl⟩ : ∃ k : Int, f = 21 + k := ⟨f - 21, by omega⟩
            rw [(v2 hb k (by omega) (by omega)).2, (r2 hb k (by omega) (by omega)).1]
        · rw [v3 f (fun a a0 a1 => by omega) (fun hb => by omega), r3 (23 * x + f) (fun a a0 a1 => by omega) (fun hb k k0 k1 => by omega)]
          exact i2 x f hr.1 hr.2 f0 f1 (fun s => hne s.2)
    · have hxr := th_rg (h2 x hx)
      rw [r3 (23 * x + f) (fun a a0 a1 => by omega) (fun hb k k0 k1 => by omega)]
      exact i1 x f hx (hd.resolve_right q) f0 f1
  · have q : x ≠ e := fun s => hn ⟨by rw [s]; exact he, Or.inr s⟩
    rw [r3 (23 * x + f) (fun a a0 a1 => by omega) (fun hb k k0 k1 => by omega)]
    exact i2 x f x0 x1 f0 f1 (fun s => hn ⟨s.1, Or.inl s.2⟩)
  · rw [r3 j (fun a a0 a1 => by omega) (fun hb k k0 k1 => by omega)]
    exact i3 j hj
theorem LdI_iff (hd : ∀ x, on x = true → (dn x ↔ dn' x)) (hI : LdI A Ao on r dn C) : LdI A Ao on r dn' C := ⟨fun x f hx hn => hI.1 x f hx ((hd x hx).mpr hn), fun x f x0 x1 f0 f1 hn => hI.2.1 x f x0 x1 f0 f1 (fun s => hn ⟨s.1, (hd x s.1).mp s.2⟩), hI.2.2⟩
theorem ld_lv (h : LdG A Ao on r) : ∀ (m : Nat) (e : Int) (C : Int → Int), 0 ≤ e → e + m = 20 → LdI A Ao on r (fun x => leM A x < lv ∨ (leM A x = lv ∧ x < e)) C → LwP r.2.2.1 r.2.2.2.1 lv m e C ∧ LdI A Ao on r (fun x => leM A x < lv + 1) (lp (ldD r.2.2.1 r.2.2.2.1 lv) m e C)
  | 0, e, C, h0, h1, hI => ⟨trivial, LdI_iff (fun x hx => by
      have := th_rg (h.2.1 x hx)
      omega) hI⟩
  | m + 1, e, C, h0, h1, hI => by
    have hs := gT_S h.1
    have hMC := LdI_MG h hI
    have hst := LdI_StR h hI
    have h4 := StR_4 hst
    have eP : LwP r.2.2.1 r.2.2.2.1 lv (m + 1) e C = (MU C ∧ MF C ∧ BgB C (C (23 * e + 2)) ∧ LwP r.2.2.1 r.2.2.2.1 lv m (e + 1) (ldD r.2.2.1 r.2.2.2.1 lv e C)) := rfl
    have hMF : MF C := fun x x0 x1 => by
      obtain ⟨m1, m2, m3, m4, m5, m6, -⟩ := hMC x x0 x1
      exact ⟨m2, m5, fun a a0 a1 => (m6 a a0 a1).1⟩
    have hBg : BgB C (C (23 * e + 2)) := fun hb k k0 k1 => by
      have h2 := (hMC e h0 (by omega)).2.1
      have := ((hMC _ hb (by omega)).2.2.2.2.2.2.2.2.2.2 k k0 k1).1
      omega
    rw [eP]
    simp only [lp]
    have hstep : LdI A Ao on r (fun x => leM A x < lv ∨ (leM A x = lv ∧ x < e + 1)) (ldD r.2.2.1 r.2.2.2.1 lv e C) := by
      by_cases q : onM C e ∧ leM C e = lv
      · have ec : ldD r.2.2.1 r.2.2.2.1 lv e C = ldR r.2.2.1 r.2.2.2.1 e C := if_pos q
        have ho := (LdI_on h hI).mp q.1
        have hth := h.2.1 e ho
        have hl : leM A e = lv := by rw [← le_Sh4 h4 hs 4 e hth (le_bd A e).2]; exact q.2
        rw [ec]
        refine LdI_iff (fun x hx => ?_) (ld_step h hI ho (fun s => by omega) ?_)
        · constructor
          · rintro ((s | s) | s)
            · exact Or.inl s
            · exact Or.inr ⟨s.1, by omega⟩
            · exact Or.inr ⟨by rw [s]; exact hl, by omega⟩
          · rintro (s | s)
            · exact Or.inl (Or.inl s)
            · by_cases u : x = e
              · exact Or.inr u
              · exact Or.inl (Or.inr ⟨s.1, by omega⟩)
        · rcases le_rec hs hth with ⟨u1, u2⟩ | ⟨u1, u2⟩
          · exact Or.inl u1
          · exact Or.inr (Or.inl (by omega))
      · have ec : ldD r.2.2.1 r.2.2.2.1 lv e C = C := if_neg q
        rw [ec]
        refine LdI_iff (fun x hx => ?_) hI
        constructor
        · rintro (s | s)
          · exact Or.inl s
          · exact Or.inr ⟨s.1, by omega⟩
        · rintro (s | s)
          · exact Or.inl s
          · by_cases u : x = e
            · exfalso
              subst u
              exact q ⟨(LdI_on h hI).mpr hx, by rw [le_Sh4 h4 hs 4 x (h.2.1 x hx) (le_bd A x).2]; exact s.1⟩
            · exact Or.inr ⟨s.1, by omega⟩
    obtain ⟨i1, i2⟩ := ld_lv h m (e + 1) _ (by omega) (by omega) hstep
    exact ⟨⟨(gS_of h4 hs).1, hMF, hBg, i1⟩, i2⟩
theorem ld_all (h : LdG A Ao on r) : ∀ (m : Nat) (lv : Int) (C : Int → Int), 0 ≤ lv → lv + m = 5 → LdI A Ao on r (fun x => leM A x < lv) C → LwL r.2.2.1 r.2.2.2.1 m lv C ∧ LdI A Ao on r (fun _ => True) (ldL r.2.2.1 r.2.2.2.1 m lv C)
  | 0, lv, C, h0, h1, hI => ⟨trivial, LdI_iff (fun x hx => ⟨fun _ => trivial, fun _ => by
      have := le_bd A x
      omega⟩) hI⟩
  | m + 1, lv, C, h0, h1, hI => by
    have eL : LwL r.2.2.1 r.2.2.2.1 (m + 1) lv C = (LwP r.2.2.1 r.2.2.2.1 lv 20 0 C ∧ LwL r.2.2.1 r.2.2.2.1 m (lv + 1) (lp (ldD r.2.2.1 r.2.2.2.1 lv) 20 0 C)) := rfl
    have eG : ldL r.2.2.1 r.2.2.2.1 (m + 1) lv C = ldL r.2.2.1 r.2.2.2.1 m (lv + 1) (lp (ldD r.2.2.1 r.2.2.2.1 lv) 20 0 C) := rfl
    obtain ⟨a1, a2⟩ := ld_lv (lv := lv) h 20 0 C (Int.le_refl _) (by omega) (LdI_iff (fun x hx => by
      have := th_rg (h.2.1 x hx)
      omega) hI)
    obtain ⟨b1, b2⟩ := ld_all h m (lv + 1) _ (by omega) (by omega) a2
    rw [eL, eG]
    exact ⟨⟨a1, b1⟩, b2⟩
theorem ld_end (h : LdG A Ao on r) : LwL r.2.2.1 r.2.2.2.1 5 0 Ao ∧ LdI A Ao on r (fun _ => True) (ldL r.2.2.1 r.2.2.2.1 5 0 Ao) := ld_all h 5 0 Ao (Int.le_refl _) rfl ⟨fun x f hx hd => by
  have := (le_bd A x).1
  omega, fun _ _ _ _ _ _ _ => rfl, fun _ _ => rfl⟩
end FI1
