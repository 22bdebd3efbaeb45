/-! THE WALK of a tree; the step unplug -/
section BF
variable {im X Y T : zM} {c c' s A B w w' : Int → Int} {e f a b x d sl wh nu un ty k kd dv m n n' K : Int} {t : Nat} {p q r : Int → Bool}
/-- a row holds all that are there, in the order of the walk -/
def WkF (A w : Int → Int) (n : Int) : Prop := (0 ≤ n ∧ n ≤ 20) ∧ (∀ i j : Int, 0 ≤ i → i < j → j < n → keM A (w i) < keM A (w j)) ∧ ∀ x, (∃ i : Int, 0 ≤ i ∧ i < n ∧ w i = x) ↔ thM A x
theorem wk_F (hs : gS A) : WkF A (wkA A).1 (wkA A).2 := by
  obtain ⟨h1, h2⟩ := lw_ok hs 20 0 (fun _ => 0, 0) (by omega) (by dsimp only; omega) (fun u v u0 u1 u2 => by dsimp only at u2; omega) (fun x => by
    constructor
    · rintro ⟨u, u0, u1, _⟩
      dsimp only at u1
      omega
    · rintro ⟨r1, r2⟩
      have := r1.1
      omega) (by omega)
  exact ⟨wkA_bd, h1, h2⟩
theorem WkF_congr (h : WkF A w n) (hw : ∀ i : Int, 0 ≤ i → i < n → w' i = w i) : WkF A w' n := by
  obtain ⟨h1, h2, h3⟩ := h
  refine ⟨h1, fun i j i0 ij j1 => ?_, fun x => ?_⟩
  · rw [hw i i0 (by omega), hw j (by omega) j1]
    exact h2 i j i0 ij j1
  · rw [← h3 x]
    constructor
    · rintro ⟨i, i0, i1, i2⟩
      exact ⟨i, i0, i1, by rw [← hw i i0 i1]; exact i2⟩
    · rintro ⟨i, i0, i1, i2⟩
      exact ⟨i, i0, i1, by rw [hw i i0 i1]; exact i2⟩
theorem TrI_F (hs : gS A) (h : TrI T t A) : WkF A (T (t + 3)) (T t 4) := by
  rw [h.2.2.2.2.1]
  exact WkF_congr (wk_F hs) h.2.2.2.2.2
theorem WkF_th (h : WkF A w n) {i : Int} (i0 : 0 ≤ i) (i1 : i < n) : thM A (w i) := (h.2.2 _).mp ⟨i, i0, i1, rfl⟩
theorem WkF_wka (h : WkF A w n) {i : Int} (i0 : 0 ≤ i) (i1 : i < n) : wka w n i = w i := by
  have := h.1
  unfold wka
  rw [if_pos ⟨i0, i1, by omega⟩]
/-- two such rows are one -/
theorem WkF_uniq (h : WkF A w n) (h' : WkF A w' n') : n = n' ∧ ∀ i : Int, 0 ≤ i → i < n → w i = w' i := by
  have e : lsO w n = lsO w' n' := pw_uniq (k := keM A) _ _ (pw_lsO h.2.1) (pw_lsO h'.2.1) (fun x => by
    rw [mem_lsO, mem_lsO, h.2.2, h'.2.2])
  exact lsO_inj h.1.1 h'.1.1 e
theorem cnt_add : ∀ (n : Nat) (i u v : Int), (∀ j : Int, i ≤ j → j < i + n → (p j = true ↔ q j = true ∨ r j = true) ∧ ¬ (q j = true ∧ r j = true)) → lp (cntf p) n i (u + v) = lp (cntf q) n i u + lp (cntf r) n i v
  | 0, _, _, _, _ => rfl
  | n + 1, i, u, v, h => by
    simp only [lp]
    obtain ⟨h1, h2⟩ := h i (by omega) (by omega)
    have e : cntf p i (u + v) = cntf q i u + cntf r i v := by
      unfold cntf
      by_cases a : q i = true
      · have b : ¬ r i = true := fun s => h2 ⟨a, s⟩
        rw [if_pos (h1.mpr (Or.inl a)), if_pos a, if_neg b]
        omega
      · by_cases b : r i = true
        · rw [if_pos (h1.mpr (Or.inr b)), if_neg a, if_pos b]
          omega
        · rw [if_neg (fun s => (h1.mp s).elim a b), if_neg a, if_neg b]
    rw [e]
    exact cnt_add n (i + 1) _ _ (fun j j0 j1 => h j (by omega) (by omega))
theorem rm_GdT (h : GdT gGd T 120 A) (hR : RmR p A B) (hp : ∀ e, thM A e → (p e = true ↔ (e = dv ∨ bhM A e dv = true))) (hp2 : ∀ e : Int, 0 ≤ e → e < 20 → p e = true → thM A e) : GdT gGd (rmM T dv) 120 B ∧ T 120 4 - rmM T dv 120 4 = lp (cntf p) 20 0 0 := by
  obtain ⟨⟨t1, t2, t3, t4, t5, t6⟩, hg, hC⟩ := id h
  have t1' : SimC (T 121) A := t1
  have hC' : Cls (T 121) := hC
  have hS := gT_S hg.1
  have hF : WkF A (T 123) (T 120 4) := TrI_F hS h.1
  have hn0 := hF.1
  have hcl : PClo p A := fun e he hb hq => by
    rw [hp e he]
    rcases bh_rec (e := dv) hS he with ⟨q, q1⟩ | ⟨q, q1⟩
    · exact absurd hb.1.1 (by omega)
    · right
      rw [q1]
      rcases (hp _ hb.1).mp hq with r | r
      · rw [r, decide_eq_true rfl]
        rfl
      · rw [r, Bool.or_true]
  have hgB := rm_good hg hR hcl
  have hSB := gT_S hgB.1
  obtain ⟨l1, l2⟩ := rmc_loop (dv := dv) (SimW_of t1') hS hF.1.2 (fun i i0 i1 => WkF_th hF i0 i1) hF.2.1 (T 120 4).toNat (T 121) (by omega) (fun e he => by
    obtain ⟨j, j0, j1, -⟩ := he
    omega) (fun _ _ _ => rfl)
  have hz : ∀ e, thM A e → p e = true → ∀ f : Int, 0 ≤ f → f < 24 → gt (rmc (T 121) (T 123) (T 120 4) dv) e f = 0 := fun e he hq => by
    obtain ⟨i, i0, i1, i2⟩ := (hF.2.2 e).mpr he
    exact l1 e ⟨i, i0, i1, i2, (hp e he).mp hq⟩
  have hk : ∀ e, ¬ (thM A e ∧ p e = true) → ∀ f : Int, gt (rmc (T 121) (T 123) (T 120 4) dv) e f = gt (T 121) e f := fun e hq => by
    refine l2 e (fun ⟨j, j0, j1, j2, j3⟩ => hq ?_)
    have he : thM A e := (hF.2.2 e).mp ⟨j, j0, j1, j2⟩
    exact ⟨he, (hp e he).mpr j3⟩
  generalize hc : rmc (T 121) (T 123) (T 120 4) dv = c at hz hk
  have hth : ∀ e, 0 < gt c e 0 ↔ thM B e := fun e => by
    rw [rm_th hR]
    by_cases q : thM A e ∧ p e = true
    · rw [hz e q.1 q.2 0 (by omega) (by omega)]
      exact ⟨fun r => by omega, fun r => by rw [q.2] at r; exact absurd r.2 (by decide)⟩
    · rw [hk e q, sc_th t1']
      exact ⟨fun r => ⟨r, Bool.eq_false_iff.mpr (fun s => q ⟨r, s⟩)⟩, fun r => r.1⟩
  obtain ⟨f1, f2⟩ := lff_ok (c := c) (w := T 123) (T 120 4).toNat 0 (T 123, 0) (by dsimp only; omega) (by dsimp only; omega) (fun _ _ => rfl)
  dsimp only at f2
  have e0 : lsO (T 123) 0 = [] := rfl
  have e1 : (rgL 0 (T 120 4).toNat).map (T 123) = lsO (T 123) (T 120 4) := rfl
  rw [e0, List.nil_append, e1] at f2
  generalize hr : lp (lff c) (T 120 4).toNat 0 (T 123, 0) = r at f1 f2
  have hbB := wkA_bd (A := B)
  have eW : lsO r.1 r.2 = lsO (wkA B).1 (wkA B).2 := by
    have hFB := wk_F hSB
    refine pw_uniq (k := keM A) _ _ ?_ ?_ (fun x => ?_)
    · rw [f2]
      exact List.Pairwise.filter _ (pw_lsO hF.2.1)
    · refine List.Pairwise.imp ?_ (pw_lsO hFB.2.1)
      intro a b hab
      rw [rm_ke hR, rm_ke hR] at hab
      exact hab
    · rw [f2, List.mem_filter, mem_lsO, mem_lsO, hF.2.2, hFB.2.2, decide_eq_true_eq, hth]
      exact ⟨fun q => q.2, fun q => ⟨((rm_th hR).mp q).1, q⟩⟩
  obtain ⟨w1, w2⟩ := lsO_inj f1 hbB.1 eW
  have xr : rmM T dv = stw (setc T 121 c) 120 r := by
    unfold rmM
    rw [hc, hr]
  have x120 : ∀ j : Int, rmM T dv 120 j = ups (T 120) 4 r.2 j := fun j => by
    rw [xr]
    unfold stw
    rw [setc_at, setc_ne _ _ (by omega)]
  have x121 : rmM T dv 121 = c := by
    rw [xr, stw_ne (by omega) (by omega), setc_at]
  have x122 : rmM T dv 122 = T 122 := by
    rw [xr, stw_ne (by omega) (by omega), setc_ne _ _ (by omega)]
  have x123 : rmM T dv 123 = r.1 := by
    rw [xr]
    unfold stw
    rw [setc_ne _ _ (by omega), setc_at]
  have x124 : rmM T dv 124 = T 124 := by
    rw [xr, stw_ne (by omega) (by omega), setc_ne _ _ (by omega)]
  refine ⟨⟨⟨?_, ?_, ?_, ?_, ?_, ?_⟩, hgB, ?_⟩, ?_⟩
  · rw [x121]
    refine SimC_frame t1' hg.1.1 (fun e e0 e1 => ?_)
    by_cases q : thM A e ∧ p e = true
    · right
      have hnB : ¬ B (23 * e + 0) = 1 := hR.1 e e0 e1 q.2
      refine ⟨?_, ?_, fun r => absurd r hnB, fun _ => ⟨hz e q.1 q.2 0 (by omega) (by omega), by rw [hz e q.1 q.2 3 (by omega) (by omega)]; decide⟩⟩
      · rw [rm_f hR (by omega) (by omega)]
        exact (t1' e e0 e1).1
      · rw [rm_f hR (by omega) (by omega)]
        exact (t1' e e0 e1).2.1
    · refine Or.inl ⟨fun f f0 f1 => ?_, hk e q⟩
      refine hR.2 _ (fun e' e0' e1' hp' => ?_)
      intro s
      have : e' = e := by omega
      rw [this] at hp'
      exact q ⟨hp2 e e0 e1 hp', hp'⟩
  · rw [x122]
    intro k k0 k1
    rw [rm_far hR (by omega)]
    exact t2 k k0 k1
  · rw [x120, ups_ne _ _ (by omega), rm_far hR (by omega)]
    exact t3
  · rw [x124, rm_far hR (by omega)]
    intro i i0 i1
    rw [rm_far hR (by omega)]
    exact t4 i i0 i1
  · rw [x120, ups_at]
    exact w1
  · rw [x123]
    exact fun i i0 i1 => w2 i i0 (by omega)
  · rw [x121]
    refine Cls_frame hC' (fun e e0 e1 => ?_)
    by_cases q : thM A e ∧ p e = true
    · right
      have hz' := hz e q.1 q.2
      unfold Clr
      rw [hz' 6 (by omega) (by omega), hz' 4 (by omega) (by omega), hz' 5 (by omega) (by omega), hz' 2 (by omega) (by omega), hz' 0 (by omega) (by omega), hz' 3 (by omega) (by omega)]
      refine ⟨by omega, by omega, by omega, by omega, fun _ => ⟨rfl, rfl⟩, fun a a0 a1 => ?_, fun k k0 k1 => ?_⟩
      · rw [hz' _ (by omega) (by omega), hz' _ (by omega) (by omega)]
        omega
      · rw [hz' _ (by omega) (by omega), hz' _ (by omega) (by omega)]
        omega
    · exact Or.inl (hk e q)
  · rw [x120, ups_at, w1, t5, wk_count, wk_count]
    have := cnt_add (p := thB A) (q := thB B) (r := p) 20 0 0 0 (fun j j0 j1 => by
      unfold thB
      rw [decide_eq_true_eq, decide_eq_true_eq, rm_th hR]
      constructor
      · constructor
        · intro hj
          by_cases hq : p j = true
          · exact Or.inr hq
          · exact Or.inl ⟨hj, Bool.eq_false_iff.mpr hq⟩
        · rintro (hj | hj)
          · exact hj.1
          · exact hp2 j j0 (by omega) hj
      · rintro ⟨hj, hq⟩
        rw [hj.2] at hq
        exact absurd hq (by decide))
    rw [show (0 : Int) + 0 = 0 from rfl] at this
    omega
theorem go_row : ∀ (n : Nat) (i : Int) (A : Int → Int) (j : Int), ((∃ e : Int, i ≤ e ∧ e < i + n ∧ p e = true ∧ j = 23 * e + 0) → lp (goM p) n i A j = 0) ∧ ((¬ ∃ e : Int, i ≤ e ∧ e < i + n ∧ p e = true ∧ j = 23 * e + 0) → lp (goM p) n i A j = A j) := by
  intro n
  induction n with
  | zero => exact fun i A j => ⟨fun ⟨e, h1, h2, _⟩ => by omega, fun _ => rfl⟩
  | succ n ih =>
    intro i A j
    simp only [lp]
    obtain ⟨h1, h2⟩ := ih (i + 1) (goM p i A) j
    constructor
    · rintro ⟨e, e1, e2, e3, e4⟩
      by_cases c1 : ∃ e : Int, i + 1 ≤ e ∧ e < i + 1 + n ∧ p e = true ∧ j = 23 * e + 0
      · exact h1 c1
      · rw [h2 c1]
        have s : e = i := by
          by_cases s : e = i
          · exact s
          · exact absurd ⟨e, by omega, by omega, e3, e4⟩ c1
        subst s
        rw [show goM p e A = ups A (23 * e + 0) 0 from if_pos e3, e4, ups_at]
    · intro hq
      rw [h2 (fun ⟨e, e1, e2, e3, e4⟩ => hq ⟨e, by omega, by omega, e3, e4⟩)]
      by_cases c2 : p i = true
      · rw [show goM p i A = ups A (23 * i + 0) 0 from if_pos c2, ups_ne _ _ (fun s => hq ⟨i, by omega, by omega, c2, s⟩)]
      · rw [show goM p i A = A from if_neg c2]
theorem go_RmR : RmR p A (lp (goM p) 20 0 A) := by
  refine ⟨fun e e0 e1 hp => ?_, fun j hj => ?_⟩
  · rw [(go_row 20 0 A (23 * e + 0)).1 ⟨e, e0, by omega, hp, rfl⟩]
    omega
  · rw [(go_row 20 0 A j).2 (fun ⟨e, e0, e1, hp, h⟩ => hj e e0 (by omega) hp h)]
theorem sp_unplug : Sp1 99 (Inv gGd) 89 168 := by
  intro im hI dv _
  have hh := hI.1.1
  have hT := trl_GdT hI
  have hg := hT.2.1
  have hs : SimC (trl im 121) (im 172) := hT.1.1
  have hS := gT_S hg.1
  have hF : WkF (im 172) (trl im 123) (trl im 120 4) := TrI_F hS hT.1
  refine (c_unplug (d := 96) hh hF.1 rfl rfl).mpr ?_
  by_cases c1 : thM (im 172) dv
  · rw [if_neg (by have := (sc_th hs).mpr c1; omega)]
    obtain ⟨hN, hcnt⟩ := rm_GdT (p := wbB (im 172) dv) (dv := dv) hT go_RmR (fun e he => wb_iff hS he) (fun e e0 e1 he => by
      unfold wbB at he
      rw [Bool.or_eq_true, Bool.and_eq_true] at he
      rcases he with r | r
      · rw [of_decide_eq_true r]
        exact c1
      · exact of_decide_eq_true r.1)
    have hX : ∀ p : Nat, p < 120 ∨ 170 < p → rmM (trl im) dv p = im p := fun p hp => by
      unfold rmM
      rw [stw_ne (by omega) (by omega), setc_ne _ _ (by omega), trl_ne (by omega)]
    have h163 : rmM (trl im) dv 163 = im 163 := by
      unfold rmM
      rw [stw_ne (by omega) (by omega), setc_ne _ _ (by omega), trl_ne (by omega)]
    have hK := act_keep hI hX (by rw [h163]; exact hI.2.2.1) hN
    have e172 := kp172 hI hX
    have eHM := kpHM hI hX
    have e4 : rmM (trl im) dv 120 4 = (lp (lff (rmc (trl im 121) (trl im 123) (trl im 120 4) dv)) (trl im 120 4).toNat 0 (trl im 123, 0)).2 := by
      unfold rmM stw
      rw [setc_at, ups_at]
    rw [← e4]
    show ∃ v : Int, _ = some (Sum.inl v) ∧ CallP 99 168 _ (kp (rmM (trl im) dv)) _
    generalize kp (rmM (trl im) dv) = Y at hK e172 eHM ⊢
    refine ⟨_, rfl, (c_unplugM (d := 96) (by rw [e172]; exact hg.1.2.1) eHM).mpr ?_⟩
    rw [e172, if_pos c1, hcnt]
    exact ⟨rfl, hK⟩
  · rw [if_pos (by have := mt (sc_th hs).mp c1; omega)]
    refine ⟨_, rfl, (c_unplugM (d := 96) (by rw [trl172]; exact hg.1.2.1) (trlHM hI)).mpr ?_⟩
    rw [trl172, if_neg c1]
    exact ⟨rfl, trl_stay hI⟩
end BF
