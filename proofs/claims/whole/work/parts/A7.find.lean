/-! THE STEPS find, spare, greediest -/
section BH
variable {im X Y T : zM} {c c' s A B w w' : Int → Int} {e f a b x d sl wh nu un ty k kd dv m n n' K : Int} {t : Nat} {p q r : Int → Bool}
theorem ff_neg : ∀ (n : Nat) (i : Int), (∀ j : Int, i ≤ j → j < i + n → p j = false) → ff p n i = -1 := fun n i h => by
  rcases ff_cases p n i with q | ⟨q0, q1, q2⟩
  · exact q
  · rw [h _ q0 q1] at q2
    exact absurd q2 (by decide)
theorem ff_negI (n : Nat) (i : Int) (h0 : 0 ≤ i) : ff p n i = -1 ↔ ∀ j : Int, i ≤ j → j < i + n → p j = false := ⟨ff_none n i h0, ff_neg n i⟩
/-- an ON bridge -/
def onBr (A : Int → Int) (e : Int) : Prop := onM A e ∧ A (23 * e + 1) = 1
theorem rg_par (g : gGd A) (he : onBr A e) (hp : A (23 * e + 2) ≠ -1) : onBr A (A (23 * e + 2)) ∧ A (23 * A (23 * e + 2) + 17) < A (23 * e + 17) ∧ A (23 * e + 18) ≤ A (23 * A (23 * e + 2) + 18) := by
  obtain ⟨⟨g1, g2, g3, g4, g5, g6, g7, g8, g9⟩, u1, u2, u3, u4, u5, u6⟩ := g
  have h1 := (u1 e he.1).resolve_left hp
  have h2 := (g5 e he.1.1).resolve_left hp
  obtain ⟨-, h4, h5⟩ := u3 e he.1 he.2
  have hb : buM A e = A (23 * e + 2) := if_neg (by have := h1.1.1; omega)
  have hr := th_rg h1.1
  rw [hb] at h4 h5
  unfold fsM at h4
  unfold lsM at h5
  rw [if_neg (by omega)] at h4 h5
  exact ⟨⟨h1, h2.2⟩, h4, h5⟩
theorem rg_own (g : gGd A) (he : onBr A e) : 1 ≤ A (23 * e + 17) ∧ A (23 * e + 17) ≤ A (23 * e + 18) ∧ A (23 * e + 18) ≤ 31 := (g.2.2.2.1 e he.1 he.2).1
/-- ranges are nested -/
theorem rg_anc (g : gGd A) : ∀ (n : Nat) (f : Int), onBr A f → leM A f ≤ n → bhM A f e = true → A (23 * e + 17) < A (23 * f + 17) ∧ A (23 * f + 18) ≤ A (23 * e + 18)
  | n, f, hf, hl, hb => by
    have hs := gT_S g.1
    rcases bh_rec (e := e) hs hf.1.1 with ⟨q, q1⟩ | ⟨q, q1⟩
    · rw [q1] at hb
      exact absurd hb (by decide)
    · obtain ⟨p1, p2, p3⟩ := rg_par g hf (by have := q.1.1; omega)
      rw [q1, Bool.or_eq_true, decide_eq_true_eq] at hb
      rcases hb with hb | hb
      · rw [hb]
        exact ⟨p2, p3⟩
      · have hle : leM A f = leM A (A (23 * f + 2)) + 1 := by
          rcases le_rec hs hf.1.1 with ⟨t, t1⟩ | ⟨t, t1⟩
          · exact absurd q.1.1 (by omega)
          · exact t1
        have hbd := le_bd A (A (23 * f + 2))
        match n, hl with
        | 0, hl => omega
        | n + 1, hl =>
          have := rg_anc g n _ p1 (by omega) hb
          omega
/-- two ranges are nested or apart -/
theorem rg_sep (g : gGd A) : ∀ (n : Nat) (e f : Int), onBr A e → onBr A f → e ≠ f → leM A e + leM A f ≤ n → bhM A e f = true ∨ bhM A f e = true ∨ A (23 * e + 18) < A (23 * f + 17) ∨ A (23 * f + 18) < A (23 * e + 17) := by
  intro n
  induction n with
  | zero =>
    intro e f he hf hne hl
    have hs := gT_S g.1
    have h1 := le_bd A e
    have h2 := le_bd A f
    rcases le_rec hs he.1.1 with ⟨t, t1⟩ | ⟨t, t1⟩
    · rcases le_rec hs hf.1.1 with ⟨u, u1⟩ | ⟨u, u1⟩
      · exact Or.inr (Or.inr (g.2.2.2.2.1 e f hne he.1 he.2 hf.1 hf.2 (by rw [t, u])))
      · have := le_bd A (A (23 * f + 2))
        omega
    · have := le_bd A (A (23 * e + 2))
      omega
  | succ n ih =>
    have key : ∀ e f : Int, onBr A e → onBr A f → e ≠ f → leM A e + leM A f ≤ ((n + 1 : Nat) : Int) → leM A f ≤ leM A e → bhM A e f = true ∨ bhM A f e = true ∨ A (23 * e + 18) < A (23 * f + 17) ∨ A (23 * f + 18) < A (23 * e + 17) := by
      intro e f he hf hne hl hfe
      have hs := gT_S g.1
      have h1 := le_bd A e
      have h2 := le_bd A f
      by_cases cp : A (23 * e + 2) = A (23 * f + 2)
      · exact Or.inr (Or.inr (g.2.2.2.2.1 e f hne he.1 he.2 hf.1 hf.2 cp))
      · rcases le_rec hs he.1.1 with ⟨t, t1⟩ | ⟨t, t1⟩
        · rcases le_rec hs hf.1.1 with ⟨u, u1⟩ | ⟨u, u1⟩
          · exact absurd (by rw [t, u]) cp
          · have := le_bd A (A (23 * f + 2))
            omega
        · have hpn : A (23 * e + 2) ≠ -1 := by have := t.1.1; omega
          obtain ⟨p1, p2, p3⟩ := rg_par g he hpn
          by_cases c2 : A (23 * e + 2) = f
          · left
            rcases bh_rec (e := f) hs he.1.1 with ⟨v, v1⟩ | ⟨v, v1⟩
            · exact absurd v hpn
            · rw [v1, c2, decide_eq_true rfl]
              rfl
          · rcases ih _ f p1 hf c2 (by omega) with r | r | r | r
            · left
              rcases bh_rec (e := f) hs he.1.1 with ⟨v, v1⟩ | ⟨v, v1⟩
              · exact absurd v hpn
              · rw [v1, r, Bool.or_true]
            · exfalso
              have hlt := (bh_ke' hs hf.1.1 p1.1.1 r).2.2
              rcases bh_rec (e := A (23 * e + 2)) hs hf.1.1 with ⟨v, v1⟩ | ⟨v, v1⟩
              · rw [v1] at r
                exact absurd r (by decide)
              · rw [v1, Bool.or_eq_true, decide_eq_true_eq] at r
                rcases r with r | r
                · exact cp r
                · have h3 := (bh_ke' hs v.1 p1.1.1 r).2.2
                  rcases le_rec hs hf.1.1 with ⟨u, u1⟩ | ⟨u, u1⟩
                  · have := v.1.1
                    omega
                  · omega
            · exact Or.inr (Or.inr (Or.inl (by omega)))
            · exact Or.inr (Or.inr (Or.inr (by omega)))
    intro e f he hf hne hl
    by_cases c : leM A f ≤ leM A e
    · exact key e f he hf hne hl c
    · rcases key f e hf he (fun q => hne q.symm) (by omega) (by omega) with r | r | r | r
      · exact Or.inr (Or.inl r)
      · exact Or.inl r
      · exact Or.inr (Or.inr (Or.inr r))
      · exact Or.inr (Or.inr (Or.inl r))
theorem rg_uniq (g : gGd A) (he : onBr A e) (hf : onBr A f) (h : A (23 * e + 17) = A (23 * f + 17)) : e = f := by
  by_cases hne : e = f
  · exact hne
  · exfalso
    have h1 := rg_own g he
    have h2 := rg_own g hf
    have := le_bd A e
    have := le_bd A f
    rcases rg_sep g 8 e f he hf hne (by omega) with r | r | r | r
    · have := (rg_anc g 4 e he (le_bd A e).2 r).1
      omega
    · have := (rg_anc g 4 f hf (le_bd A f).2 r).1
      omega
    · omega
    · omega
theorem sc_17 (h : SimC c A) (he : onBr A e) : gt c e 7 = A (23 * e + 17) ∧ gt c e 8 = A (23 * e + 18) ∧ ∀ k : Int, 0 ≤ k → k < 2 → gt c e (18 + k) = A (23 * e + (19 + k)) ∧ gt c e (20 + k) = A (23 * e + (21 + k)) := ((sc_d h he.1.1).2.2.2.2.2.2.2.2 he.2).2 he.1.2
theorem sc_onBr (h : SimC c A) : (gt c e 0 = 2 ∧ gt c e 3 = 1) ↔ onBr A e := by
  rw [sc_br h, sc_on h]
  exact ⟨fun q => ⟨q.2, q.1.2⟩, fun q => ⟨⟨q.1.1, q.2⟩, q.1⟩⟩
theorem Inv_F (hI : Inv gGd im) : WkF (im 172) (im (nowT (im 1 1) + 3)) (im (nowT (im 1 1)) 4) := TrI_F (gT_S (Inv_g hI).1) hI.1.2.2.2.2.1.1
theorem sp_find : Sp2 99 (Inv gGd) 102 227 := by
  intro im hI num _ sl _
  have hc := Inv_c hI
  have g := Inv_g hI
  have hF := Inv_F hI
  refine (c_find (d := 96) (Inv_hh hI) rfl hF.1.2).mpr ⟨_, rfl, (c_findM (d := 96)).mpr ⟨?_, hI⟩⟩
  have hpl : ∀ x, ff (plgB (im (nowT (im 1 1) + 1)) x sl) 20 0 = ff (isM (im 172) x sl) 20 0 := fun x => ff_congr 20 0 (fun _ _ _ => sim_plg hc)
  unfold fnA fdM
  by_cases c1 : 0 ≤ sl ∧ sl ≤ 7
  · rw [if_pos c1]
    by_cases c2 : num = 0
    · rw [if_pos c2, if_pos c2, hpl]
    · rw [if_neg c2, if_neg c2]
      have i1 : ∀ i : Int, 0 ≤ i → i < im (nowT (im 1 1)) 4 → (fnB (im (nowT (im 1 1) + 1)) (im (nowT (im 1 1) + 3)) (im (nowT (im 1 1)) 4) num i = true ↔ fdB (im 172) num (im (nowT (im 1 1) + 3) i) = true) := fun i i0 i1 => by
        unfold fnB fdB
        rw [decide_eq_true_eq, decide_eq_true_eq, WkF_wka hF i0 i1]
        constructor
        · rintro ⟨q1, q2, q3⟩
          have ho := (sc_onBr hc).mp ⟨q1, q2⟩
          exact ⟨⟨ho.1.1, ho.2⟩, ho.1, by rw [← (sc_17 hc ho).1]; exact q3⟩
        · rintro ⟨q1, q2, q3⟩
          obtain ⟨r1, r2⟩ := (sc_onBr hc).mpr ⟨q2, q1.2⟩
          exact ⟨r1, r2, by rw [(sc_17 hc ⟨q2, q1.2⟩).1]; exact q3⟩
      have hn := hF.1
      by_cases c3 : ff (fdB (im 172) num) 20 0 = -1
      · have h3 := ff_none 20 0 (by omega) c3
        rw [if_pos c3, if_pos]
        refine ff_neg _ _ (fun j j0 j1 => Bool.eq_false_iff.mpr (fun s => ?_))
        have s' := (i1 j j0 (by omega)).mp s
        have ht := th_rg (WkF_th hF j0 (show j < im (nowT (im 1 1)) 4 by omega))
        rw [h3 _ ht.1 (by omega)] at s'
        exact absurd s' (by decide)
      · obtain ⟨e0, e1, e2⟩ := (ff_cases (fdB (im 172) num) 20 0).resolve_left c3
        have hd := of_decide_eq_true e2
        obtain ⟨i, i0, i1', i2⟩ := (hF.2.2 _).mpr hd.1.1
        have hi : fnB (im (nowT (im 1 1) + 1)) (im (nowT (im 1 1) + 3)) (im (nowT (im 1 1)) 4) num i = true := (i1 i i0 i1').mpr (by rw [i2]; exact e2)
        rw [if_neg c3]
        rcases ff_cases (fnB (im (nowT (im 1 1) + 1)) (im (nowT (im 1 1) + 3)) (im (nowT (im 1 1)) 4) num) (im (nowT (im 1 1)) 4).toNat 0 with q | ⟨q0, q1, q2⟩
        · have := ff_none _ 0 (by omega) q i i0 (by omega)
          rw [hi] at this
          exact absurd this (by decide)
        · rw [if_neg (by omega), hpl, WkF_wka hF q0 (by omega)]
          have q3 := of_decide_eq_true ((i1 _ q0 (by omega)).mp q2)
          rw [rg_uniq g ⟨hd.2.1, hd.1.2⟩ ⟨q3.2.1, q3.1.2⟩ (by rw [hd.2.2, q3.2.2])]
  · rw [if_neg c1]
    have hno : ∀ x, ff (isM (im 172) x sl) 20 0 = -1 := fun x => ff_neg 20 0 (fun j j0 j1 => decide_eq_false (fun q => by
      have := sl_rg (gT_S g.1) q.1
      rw [q.2.2] at this
      exact c1 this))
    simp only [hpl, hno, ite_self]
/-- which numbers are free -/
theorem fre_iff (hc : SimC c A) (g : gGd A) (hF : WkF A w n) (ha : a = -1 ∨ onBr A a) : fre c w n a b ↔ fuP A (bfM a) b := by
  have hfs : fstf c a = fsM A (bfM a) ∧ lstf c a = lsM A (bfM a) := by
    unfold fstf lstf bfM fsM lsM
    rcases ha with q | q
    · rw [if_pos q, if_pos q, if_pos q, if_pos rfl, if_pos rfl]
      exact ⟨rfl, rfl⟩
    · have hr := th_rg q.1.1
      rw [if_neg (by omega), if_neg (by omega), if_neg (by omega), if_neg (by omega), if_neg (by omega)]
      exact ⟨(sc_17 hc q).1, (sc_17 hc q).2.1⟩
  have hn := hF.1
  have hff : ff (rgB c w n a b) n.toNat 0 = -1 ↔ ff (nfB A (bfM a) b) 20 0 = -1 := by
    have h1 : ∀ i : Int, 0 ≤ i → i < n → (rgB c w n a b i = true ↔ nfB A (bfM a) b (w i) = true) := fun i i0 i1 => by
      have ht := WkF_th hF i0 i1
      have hbu : buM A (w i) = bfM a ↔ A (23 * w i + 2) = a := by
        have h2 := MG_at g.1.1 (dv := w i) ⟨ht.1, (th_rg ht).2⟩
        unfold buM bfM
        rcases ha with q | q
        · rw [if_pos q, q]
          split <;> omega
        · have hr := th_rg q.1.1
          rw [if_neg (show ¬ a = -1 by omega)]
          split <;> omega
      unfold rgB nfB
      rw [decide_eq_true_eq, decide_eq_true_eq, WkF_wka hF i0 i1, hbu, sc_at hc ht]
      constructor
      · rintro ⟨q1, q2, q3, q4, q5⟩
        have ho := (sc_onBr hc).mp ⟨q2, q3⟩
        rw [(sc_17 hc ho).1] at q4
        rw [(sc_17 hc ho).2.1] at q5
        exact ⟨ho.1, ho.2, q1, q4, q5⟩
      · rintro ⟨q1, q2, q3, q4, q5⟩
        obtain ⟨r1, r2⟩ := (sc_onBr hc).mpr ⟨q1, q2⟩
        rw [(sc_17 hc ⟨q1, q2⟩).1, (sc_17 hc ⟨q1, q2⟩).2.1]
        exact ⟨q3, r1, r2, q4, q5⟩
    rw [ff_negI _ _ (by omega), ff_negI _ _ (by omega)]
    constructor
    · intro h j j0 j1
      refine Bool.eq_false_iff.mpr (fun s => ?_)
      have hj := of_decide_eq_true s
      obtain ⟨i, i0, i1, i2⟩ := (hF.2.2 j).mpr hj.1.1
      have := h i i0 (by omega)
      rw [(h1 i i0 i1).mpr (by rw [i2]; exact s)] at this
      exact absurd this (by decide)
    · intro h i i0 i1
      refine Bool.eq_false_iff.mpr (fun s => ?_)
      have hr := th_rg (WkF_th hF i0 (show i < n by omega))
      have := (h1 i i0 (by omega)).mp s
      rw [h _ hr.1 (by omega)] at this
      exact absurd this (by decide)
  unfold fre fuP
  rw [hff, hfs.1, hfs.2]
  constructor
  · rintro ⟨q1, q2, q3⟩
    exact ⟨⟨by omega, q2⟩, q3⟩
  · rintro ⟨⟨q1, q2⟩, q3⟩
    exact ⟨by omega, q2, q3⟩
theorem iw_iff : iwM A a k ↔ (a = -1 ∨ onBr A a) ∧ 0 ≤ k ∧ k ≤ 1 := by
  unfold iwM ibM buOn bfM onBr
  constructor
  · rintro ⟨q1, q2, q3⟩
    refine ⟨?_, q2⟩
    by_cases r : a = -1
    · exact Or.inl r
    · rw [if_neg r] at q3
      have hb := q1.resolve_left r
      have := th_rg hb.1
      exact Or.inr (q3.resolve_left (by omega))
  · rintro ⟨q1, q2⟩
    refine ⟨q1.imp id (fun r => ⟨r.1.1, r.2⟩), q2, ?_⟩
    by_cases r : a = -1
    · rw [if_pos r]
      exact Or.inl rfl
    · rw [if_neg r]
      exact Or.inr (q1.resolve_left r)
theorem sp_spare : Sp1 99 (Inv gGd) 122 248 := by
  intro im hI a _
  have hc := Inv_c hI
  have g := Inv_g hI
  have hF := Inv_F hI
  refine (c_spare (d := 95) (Inv_hh hI) rfl hF.1.2).mpr ⟨_, rfl, (c_spareM (d := 93) g.1.1).mpr ⟨?_, hI⟩⟩
  have e1 : (a = -1 ∨ (gt (im (nowT (im 1 1) + 1)) a 0 = 2 ∧ gt (im (nowT (im 1 1) + 1)) a 3 = 1)) ↔ (a = -1 ∨ onBr (im 172) a) := or_congr Iff.rfl (sc_onBr hc)
  by_cases c1 : a = -1 ∨ onBr (im 172) a
  · rw [if_pos (iw_iff.mpr ⟨c1, by omega, by omega⟩), if_pos (e1.mpr c1)]
    have e2 : lp (cntf (fun v => decide (fuP (im 172) (bfM a) v))) 32 0 0 = lp (cntf (frA (im (nowT (im 1 1) + 1)) (im (nowT (im 1 1) + 3)) (im (nowT (im 1 1)) 4) a)) 32 0 0 := cnt_congr 32 0 0 (fun j _ _ => decide_eq_decide.mpr (fre_iff hc g hF c1).symm)
    rw [e2]
  · rw [if_neg (fun q => c1 (iw_iff.mp q).1), if_neg (fun q => c1 (e1.mp q))]
/-- the reference's walk leaves all but scratch -/
theorem Inv_wkm {y : (Int → Int) × Int} (hI : Inv gGd im) : Inv gGd (wkm im y) := by
  have hne : ∀ p : Nat, p ≠ 171 → p ≠ 173 → wkm im y p = im p := fun p h1 h2 => by
    unfold wkm
    rw [setc_ne _ _ h1, setc_ne _ _ h2]
  have h171 : ∀ f : Int, f ≠ 2 → wkm im y 171 f = im 171 f := fun f hf => by
    unfold wkm
    rw [setc_at, ups_ne _ _ hf]
  refine Inv_of gGd_ok hI (fun p hp => hne p (by omega) (by omega)) ⟨h171 _ (by omega), h171 _ (by omega)⟩ (fun j _ _ => by rw [hne 172 (by omega) (by omega)]) (fun p hp => hne p (by omega) (by omega)) ⟨?_, ?_, ?_⟩
  · rw [hne 163 (by omega) (by omega)]
    exact hI.2.2.1
  · rw [hne 184 (by omega) (by omega)]
    exact hI.2.2.2.1
  · rw [hne 176 (by omega) (by omega)]
    exact hI.2.2.2.2
theorem sp_walkG : Sp1 99 (Inv gGd) 103 228 := sp_walk (fun _ h => Inv_Bas h) (fun _ h => Inv_Wk h) (fun _ _ h => Inv_wkm h)
theorem un_eq (hc : SimC c A) (he : thM A e) : unt c e k = unM A e k := by
  obtain ⟨d1, d2, d3, d4, d5, d6, d7, d8, d9⟩ := sc_d hc he
  unfold unt unM
  rw [d5]
  refine lp_congr _ 0 0 (fun j j0 j1 s => ?_)
  obtain ⟨e1, e2, e3⟩ := d8 j j0 (by omega)
  unfold usf usM
  rw [e1, e2]
theorem un_nn (hM : MG A) (he : 0 ≤ e ∧ e < 20) : 0 ≤ unM A e k := by
  have hm := MG_many hM he
  have key : ∀ (n : Nat) (i s : Int), 0 ≤ i → i + n ≤ 3 → 0 ≤ s → 0 ≤ lp (usM A e k) n i s := by
    intro n
    induction n with
    | zero => exact fun i s _ _ h => h
    | succ n ih =>
      intro i s h0 h1 hs
      simp only [lp]
      refine ih (i + 1) _ (by omega) (by omega) ?_
      have := (MG_ap hM he (a := i) (by omega)).2.1
      unfold usM
      split <;> omega
  exact key _ 0 0 (by omega) (by omega) (by omega)
theorem un_br (g : gT A) (he : brM A e) : unM A e k = 0 := by
  unfold unM
  rw [g.2.2.2.2.2.2.1 e he]
  rfl
theorem sp_greediest : Sp1 99 (Inv gGd) 125 251 := by
  intro im hI k _
  have hc := Inv_c hI
  have g := Inv_g hI
  have hF := Inv_F hI
  obtain ⟨hh, hm, ⟨hg, hu⟩, hb, -⟩ := Inv_Bas hI
  refine (c_greediest (d := 96) (Inv_hh hI) rfl hF.1.2 hb).mpr ⟨_, rfl, (c_greediestM (d := 95) hu hg).mpr ?_⟩
  by_cases c1 : 0 ≤ k ∧ k ≤ 1
  · rw [if_pos c1, if_pos (show 0 ≤ k ∧ k < 2 by omega)]
    refine ⟨?_, Inv_wkm hI⟩
    obtain ⟨w1, w2⟩ := Inv_Wk hI
    have key : ∀ (n : Nat) (i : Int) (y : Int × Int), 0 ≤ i → i + n = im (nowT (im 1 1)) 4 → 0 ≤ y.2 → lp (grF (im 172) (waM im).1 k) n i y = lp (muf (im (nowT (im 1 1) + 1)) (im (nowT (im 1 1) + 3)) (im (nowT (im 1 1)) 4) k 0) n i y := by
      intro n
      induction n with
      | zero => exact fun _ _ _ _ _ => rfl
      | succ n ih =>
        intro i y h0 h1 hy
        simp only [lp]
        have ht := WkF_th hF h0 (show i < im (nowT (im 1 1)) 4 by omega)
        have hw := w2 i h0 (by omega)
        have e1 : grF (im 172) (waM im).1 k i y = muf (im (nowT (im 1 1) + 1)) (im (nowT (im 1 1) + 3)) (im (nowT (im 1 1)) 4) k 0 i y ∧ 0 ≤ (grF (im 172) (waM im).1 k i y).2 := by
          have hnn := un_nn (k := k) g.1.1 (th_rg ht)
          unfold grF muf
          rw [WkF_wka hF h0 (by omega), ← hw, un_eq hc ht]
          by_cases ce : epM (im 172) (im (nowT (im 1 1) + 3) i)
          · by_cases c2 : y.2 < unM (im 172) (im (nowT (im 1 1) + 3) i) k
            · rw [if_pos c2, if_pos ⟨(sc_ep hc).mpr ce, Or.inr rfl, c2⟩]
              exact ⟨rfl, hnn⟩
            · rw [if_neg c2, if_neg (fun q => c2 q.2.2)]
              exact ⟨rfl, hy⟩
          · have hbm : brM (im 172) (im (nowT (im 1 1) + 3) i) := by
              have := (hc _ (th_rg ht).1 (th_rg ht).2).1
              refine ⟨ht, ?_⟩
              rcases this with r | r
              · exact absurd ⟨ht, r⟩ ce
              · exact r
            rw [un_br g.1 hbm, if_neg (by omega), if_neg (fun q => ce ((sc_ep hc).mp q.1))]
            exact ⟨rfl, hy⟩
        rw [← e1.1]
        exact ih (i + 1) _ (by omega) (by omega) e1.2
    have hn := hF.1
    unfold grM
    rw [← w1, key _ 0 (-1, 0) (by omega) (by omega) (by dsimp only; omega)]
  · rw [if_neg c1, if_neg (show ¬ (0 ≤ k ∧ k < 2) by omega)]
    exact ⟨rfl, hI⟩
end BH
