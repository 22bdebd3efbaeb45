/-! THE STEP shift -/
section BG
variable {im X Y T : zM} {c c' s A B w w' : Int → Int} {e f a b x d sl wh nu un ty k kd dv m n n' K : Int} {t : Nat} {p q r : Int → Bool}
def shA (A : Int → Int) (dv a sl : Int) : Int → Int := ups (ups A (23 * dv + 2) a) (23 * dv + 3) sl
theorem shA_v (A : Int → Int) (dv a sl j : Int) : shA A dv a sl j = if j = 23 * dv + 3 then sl else if j = 23 * dv + 2 then a else A j := rfl
theorem shA_o {j : Int} (h : j ≠ 23 * dv + 3 ∧ j ≠ 23 * dv + 2) : shA A dv a sl j = A j := by rw [shA_v, if_neg h.1, if_neg h.2]
theorem up_more (A : Int → Int) : ∀ (n : Nat) (b : Int), upM A n b → upM A (n + 1) b
  | 0, b, h => by
    have h' : b < 0 := h
    simp only [upM]
    exact Or.inl h'
  | n + 1, b, h => by
    rw [upM] at h ⊢
    exact h.imp id (fun q => ⟨q.1, q.2.1, up_more A n _ q.2.2⟩)
theorem up_le (A : Int → Int) {b : Int} : ∀ (k n : Nat), upM A n b → upM A (n + k) b
  | 0, _, h => h
  | k + 1, n, h => up_more A (n + k) b (up_le A k n h)
theorem sh_th (hd : 0 ≤ dv ∧ dv < 20) : thM (shA A dv a sl) e ↔ thM A e := by
  unfold thM
  rw [shA_o (by omega)]
theorem sh_br (hd : 0 ≤ dv ∧ dv < 20) : brM (shA A dv a sl) e ↔ brM A e := by
  unfold brM
  rw [sh_th hd, shA_o (by omega)]
theorem sh_on (hd : 0 ≤ dv ∧ dv < 20) : onM (shA A dv a sl) e ↔ onM A e := by
  unfold onM
  rw [sh_th hd, shA_o (by omega)]
theorem sh_rw (he : e ≠ dv) : Rw A (shA A dv a sl) e := fun f f0 f1 => shA_o (by omega)
/-- ways up that don't come by the one that is moved -/
theorem sh_upA (hs : gS A) (hd : 0 ≤ dv ∧ dv < 20) : ∀ (n : Nat) (b : Int), (b = -1 ∨ thM A b) → ¬ (b = dv ∨ bhM A b dv = true) → upM A n b → upM (shA A dv a sl) n b
  | 0, b, _, _, h => h
  | n + 1, b, hb, hn, h => by
    simp only [upM] at h ⊢
    by_cases q : b < 0
    · exact Or.inl q
    · have ht := hb.resolve_left (by omega)
      have hne : b ≠ dv := fun r => hn (Or.inl r)
      obtain ⟨h1, h2, h3⟩ := h.resolve_left q
      rw [sh_rw hne 2 (by omega) (by omega), sh_rw hne 3 (by omega) (by omega)]
      refine Or.inr ⟨h1, h2, ?_⟩
      rcases bh_rec (e := dv) hs ht with ⟨s, s1⟩ | ⟨s, s1⟩
      · rw [s]
        cases n with
        | zero => exact (show (-1 : Int) < 0 by omega)
        | succ n => exact Or.inl (by omega)
      · refine sh_upA hs hd n _ (Or.inr s.1) (fun r => hn (Or.inr ?_)) h3
        rw [s1]
        rcases r with r | r
        · rw [decide_eq_true r.symm]
          rfl
        · rw [r, Bool.or_true]
/-- ways up of what is moved -/
theorem sh_upB (hs : gS A) (hd : thM A dv) (hsl : 0 ≤ sl ∧ sl ≤ 7) {l : Nat} (ha : upM (shA A dv a sl) l a) : ∀ (n : Nat) (e : Int), thM A e → (e = dv ∨ bhM A e dv = true) → leM A e ≤ leM A dv + n → upM (shA A dv a sl) (l + 1 + (leM A e - leM A dv).toNat) e
  | n, e, he, hq, hl => by
    have hdr := th_rg hd
    by_cases q : e = dv
    · rw [q, show (leM A dv - leM A dv).toNat = 0 by omega]
      simp only [Nat.add_zero, upM]
      rw [shA_v, if_pos rfl, shA_v, if_neg (by omega), if_pos rfl]
      exact Or.inr ⟨hdr.2, hsl, ha⟩
    · have hb := hq.resolve_left q
      have hlt := (bh_ke' hs he hd hb).2.2
      have her := th_rg he
      rcases bh_rec (e := dv) hs he with ⟨s, s1⟩ | ⟨s, s1⟩
      · rw [s1] at hb
        exact absurd hb (by decide)
      · rw [s1, Bool.or_eq_true, decide_eq_true_eq] at hb
        have hle : leM A e = leM A (A (23 * e + 2)) + 1 := by
          rcases le_rec hs he with ⟨t, t1⟩ | ⟨t, t1⟩
          · exact absurd s.1.1 (by omega)
          · exact t1
        match n, hl with
        | 0, hl => omega
        | n + 1, hl =>
          have ih := sh_upB hs hd hsl ha n (A (23 * e + 2)) s.1 (hb.imp Eq.symm id) (by omega)
          have hge : leM A dv ≤ leM A (A (23 * e + 2)) := by omega
          rw [show l + 1 + (leM A e - leM A dv).toNat = l + 1 + (leM A (A (23 * e + 2)) - leM A dv).toNat + 1 by omega]
          simp only [upM]
          rw [sh_rw q 2 (by omega) (by omega), sh_rw q 3 (by omega) (by omega)]
          exact Or.inr ⟨her.2, sl_rg hs he, ih⟩
theorem ho_ge : ∀ (n : Nat) (i s : Int), s ≤ lp (hoM A dv) n i s ∧ ∀ e : Int, i ≤ e → e < i + n → wbB A dv e = true → leM A e - leM A dv ≤ lp (hoM A dv) n i s
  | 0, i, s => ⟨Int.le_refl _, fun e _ _ _ => by omega⟩
  | n + 1, i, s => by
    simp only [lp]
    obtain ⟨h1, h2⟩ := ho_ge n (i + 1) (hoM A dv i s)
    have h3 : s ≤ hoM A dv i s ∧ (wbB A dv i = true → leM A i - leM A dv ≤ hoM A dv i s) := by
      unfold hoM
      split
      · omega
      · rename_i q
        refine ⟨Int.le_refl _, fun r => ?_⟩
        have : ¬ s < leM A i - leM A dv := fun t => q ⟨r, t⟩
        omega
    refine ⟨by omega, fun e e0 e1 he => ?_⟩
    by_cases q : e = i
    · subst q
      have := h3.2 he
      omega
    · exact h2 e (by omega) (by omega) he
theorem sh_good (hg : gGd A) (h : shM A dv a sl) : gGd (shA A dv a sl) := by
  obtain ⟨h1, h2, ⟨h3, h4, h5⟩, h6, h7⟩ := h
  obtain ⟨⟨g1, g2, g3, g4, g5, g6, g7, g8, g9⟩, gO'⟩ := id hg
  have hs := gT_S hg.1
  have hd := th_rg h1
  have har : -1 ≤ a ∧ a ≤ 19 := by
    rcases h3 with r | r
    · omega
    · have := th_rg r.1
      omega
  have hM : MG (shA A dv a sl) := MG_frame g1 (fun e e0 e1 => by
    by_cases q : e = dv
    · right
      rw [q]
      obtain ⟨m1, m2, m3, m4, m5, m6, m7, m8, m9, m10, m11⟩ := g1 dv hd.1 hd.2
      have hr : ∀ f : Int, f ≠ 2 → f ≠ 3 → shA A dv a sl (23 * dv + f) = A (23 * dv + f) := fun f f0 f1 => shA_o (by omega)
      unfold MGr
      rw [hr 1 (by omega) (by omega), hr 4 (by omega) (by omega), hr 5 (by omega) (by omega), hr 15 (by omega) (by omega), hr 16 (by omega) (by omega), hr 17 (by omega) (by omega), hr 18 (by omega) (by omega), shA_v A dv a sl (23 * dv + 2), if_neg (by omega), if_pos rfl, shA_v A dv a sl (23 * dv + 3), if_pos rfl]
      refine ⟨m1, har, h4, m4, m5, fun a' a0 a1 => ?_, m7, m8, m9, m10, fun k k0 k1 => ?_⟩
      · rw [hr _ (by omega) (by omega), hr _ (by omega) (by omega), hr _ (by omega) (by omega)]
        exact m6 a' a0 a1
      · rw [hr _ (by omega) (by omega), hr _ (by omega) (by omega)]
        exact m11 k k0 k1
    · exact Or.inl (sh_rw q))
  have far : ∀ j : Int, 460 ≤ j → shA A dv a sl j = A j := fun j hj => shA_o (by omega)
  have hup : upM (shA A dv a sl) (lbM A a).toNat a := by
    rcases h3 with r | r
    · rw [r]
      cases (lbM A (-1)).toNat with
      | zero => exact (show (-1 : Int) < 0 by omega)
      | succ n => exact Or.inl (by omega)
    · have hl := lb_eq (A := A) (a := a) (Or.inr r.1.1)
      have hb := lvM_bd (A := A) 5 a
      exact sh_upA hs hd _ a (Or.inr r.1) (fun s => h6 ⟨r.1.1, (wb_iff hs r.1).mpr s⟩) (up_lv hs.2.1 hs.1 _ a (Or.inr r.1) (by omega))
  have hlb : 0 ≤ lbM A a := by
    unfold lbM
    split
    · omega
    · have := le_bd A a
      omega
  have hMU : MU (shA A dv a sl) := fun e e0 e1 he => by
    have ht : thM A e := (sh_th hd).mp ⟨e0, by omega, he⟩
    by_cases q : e = dv ∨ bhM A e dv = true
    · have h8 := (ho_ge (A := A) (dv := dv) 20 0 0).2 e e0 (by omega) ((wb_iff hs ht).mpr q)
      have hle := le_bd A e
      have hld := le_bd A dv
      have hu := sh_upB hs h1 h4 hup 4 e ht q (by omega)
      have := up_le (shA A dv a sl) (b := e) (5 - ((lbM A a).toNat + 1 + (leM A e - leM A dv).toNat)) _ hu
      have hge : leM A dv ≤ leM A e := by
        rcases q with q | q
        · rw [q]
          omega
        · have := (bh_ke' hs ht h1 q).2.2
          omega
      rw [show (lbM A a).toNat + 1 + (leM A e - leM A dv).toNat + (5 - ((lbM A a).toNat + 1 + (leM A e - leM A dv).toNat)) = 5 by omega] at this
      exact this
    · exact sh_upA hs hd 5 e (Or.inr ht) q (g2 e e0 e1 ht.2.2)
  have hrw4 : ∀ e f : Int, 4 ≤ f → f < 23 → shA A dv a sl (23 * e + f) = A (23 * e + f) := fun e f f0 f1 => shA_o (by omega)
  have hrw1 : ∀ e f : Int, 0 ≤ f → f < 2 → shA A dv a sl (23 * e + f) = A (23 * e + f) := fun e f f0 f1 => shA_o (by omega)
  refine ⟨⟨hM, hMU, by rw [far _ (by omega)]; exact g3, fun k k0 k1 => by rw [far _ (by omega)]; exact g4 k k0 k1, fun e he => ?_, fun e f he hf q1 q2 => ?_, fun e he => ?_, fun e a' he a0 a1 => ?_, fun e k he k0 k1 => ?_⟩, gO_less gO' g1 hM (fun k k0 k1 => far _ (by omega)) (fun e he => ?_) (fun e he => ?_) (fun e he hn => ?_)⟩
  · by_cases q : e = dv
    · rw [q, shA_v, if_neg (by omega), if_pos rfl]
      exact h3.imp id (fun r => (sh_br hd).mpr r)
    · rw [sh_rw q 2 (by omega) (by omega)]
      exact (g5 e ((sh_th hd).mp he)).imp id (fun r => (sh_br hd).mpr r)
  · have he' := (sh_th hd).mp he
    have hf' := (sh_th hd).mp hf
    have hfree : ∀ x, thM A x → A (23 * x + 2) = a → A (23 * x + 3) = sl → False := fun x hx x1 x2 => by
      have hc := ff_none 20 0 (by omega) (by rcases ff_cases (isM A a sl) 20 0 with s | s; exact s; omega) x hx.1 (by have := hx.2.1; omega)
      unfold isM at hc
      exact absurd ⟨hx, x1, x2⟩ (of_decide_eq_false hc)
    have v2 : shA A dv a sl (23 * dv + 2) = a := by rw [shA_v, if_neg (by omega), if_pos rfl]
    have v3 : shA A dv a sl (23 * dv + 3) = sl := by rw [shA_v, if_pos rfl]
    by_cases qe : e = dv
    · by_cases qf : f = dv
      · omega
      · rw [qe, v2, sh_rw qf 2 (by omega) (by omega)] at q1
        rw [qe, v3, sh_rw qf 3 (by omega) (by omega)] at q2
        exact absurd (hfree f hf' q1.symm q2.symm) id
    · by_cases qf : f = dv
      · rw [qf, v2, sh_rw qe 2 (by omega) (by omega)] at q1
        rw [qf, v3, sh_rw qe 3 (by omega) (by omega)] at q2
        exact absurd (hfree e he' q1 q2) id
      · rw [sh_rw qe 2 (by omega) (by omega), sh_rw qf 2 (by omega) (by omega)] at q1
        rw [sh_rw qe 3 (by omega) (by omega), sh_rw qf 3 (by omega) (by omega)] at q2
        exact g6 e f he' hf' q1 q2
  · rw [hrw4 e 5 (by omega) (by omega)]
    exact g7 e ((sh_br hd).mp he)
  · have hq := (sh_th hd).mp he
    have := (g1 e (th_rg hq).1 (th_rg hq).2).2.2.2.2.1
    rw [hrw4 e 5 (by omega) (by omega)] at a1
    rw [hrw4 e _ (by omega) (by omega)]
    exact g8 e a' hq a0 a1
  · rw [hrw4 e _ (by omega) (by omega)]
    refine g9 e k ⟨(sh_th hd).mp he.1, ?_⟩ k0 k1
    rw [← hrw1 e 1 (by omega) (by omega)]
    exact he.2
  · have hq := (sh_on hd).mp he
    exact ⟨hq, sh_rw (fun q => h2 (q ▸ hq))⟩
  · have hq := (sh_on hd).mp he
    have hne : e ≠ dv := fun q => h2 (q ▸ hq)
    rw [sh_rw hne 2 (by omega) (by omega)]
    exact (gO'.1 e hq).imp id (fun r => (sh_on hd).mpr r)
  · obtain ⟨o1, o2, o3, o4⟩ := gO'.2.1 e ((sh_th hd).mp he) (fun r => hn ((sh_on hd).mpr r))
    refine ⟨?_, ?_, fun a' a0 a1 => ?_, fun k k0 k1 => ⟨?_, ?_⟩⟩
    · rw [hrw4 e _ (by omega) (by omega)]; exact o1
    · rw [hrw4 e _ (by omega) (by omega)]; exact o2
    · rw [hrw4 e _ (by omega) (by omega)]; exact o3 a' a0 a1
    · rw [hrw4 e _ (by omega) (by omega)]; exact (o4 k k0 k1).1
    · rw [hrw4 e _ (by omega) (by omega)]; exact (o4 k k0 k1).2
theorem sh_GdT {T : zM} (h : GdT gGd T 120 A) (hq : shM A dv a sl) : GdT gGd (pln T dv (gt (T 121) dv 0) a sl) 120 (shA A dv a sl) := by
  obtain ⟨⟨t1, t2, t3, t4, t5, t6⟩, hg, hC⟩ := h
  have t1' : SimC (T 121) A := t1
  have hC' : Cls (T 121) := hC
  have hd := th_rg hq.1
  have hgN := sh_good hg hq
  obtain ⟨h1, h2, ⟨h3, h4, h5⟩, h6, h7⟩ := id hq
  have hty : gt (T 121) dv 0 = 1 + A (23 * dv + 1) := (sc_d t1' h1).1
  have hcm := (t1' dv hd.1 hd.2).1
  have hS : SimC (plgc (T 121) dv (gt (T 121) dv 0) a sl) (shA A dv a sl) := by
    refine SimC_frame t1' hg.1.1 (fun e e0 e1 => ?_)
    by_cases q : e = dv
    · right
      rw [q]
      obtain ⟨q1, q2, q3, q4⟩ := t1' dv hd.1 hd.2
      obtain ⟨d1, d2, d3, d4, d5, d6, d7, d8, d9⟩ := q3 h1.2.2
      have h5' := (hg.1.1 dv hd.1 hd.2).2.2.2.2.1
      have hr : ∀ f : Int, f ≠ 2 → f ≠ 3 → shA A dv a sl (23 * dv + f) = A (23 * dv + f) := fun f f0 f1 => shA_o (by omega)
      have hoff : ¬ A (23 * dv + 4) = 1 := fun r => h2 ⟨h1, r⟩
      have ob := (hg.2.2.1 dv h1 h2).2.2.1
      have v2 : shA A dv a sl (23 * dv + 2) = a := by rw [shA_v, if_neg (by omega), if_pos rfl]
      have v3 : shA A dv a sl (23 * dv + 3) = sl := by rw [shA_v, if_pos rfl]
      have gk : ∀ f : Int, f ≠ 1 → f ≠ 2 → ¬ (f = 7 ∨ f = 8 ∨ (15 ≤ f ∧ f ≤ 19)) → ¬ (f = 20 ∨ f = 21) → gt (plgc (T 121) dv (gt (T 121) dv 0) a sl) dv f = gt (T 121) dv f := fun f n1 n2 n3 n4 => by
        rw [gt_plgc hd]
        by_cases n0 : f = 0
        · rw [if_pos ⟨rfl, n0⟩, n0]
        · rw [if_neg (fun r => n0 r.2), if_neg (fun r => n1 r.2), if_neg (fun r => n2 r.2), if_neg (fun r => n3 r.2), if_neg (fun r => n4 r.2)]
      have gb : ∀ f : Int, 15 ≤ f → f ≤ 19 → gt (plgc (T 121) dv (gt (T 121) dv 0) a sl) dv f = -1 := fun f n1 n2 => by
        rw [gt_plgc hd, if_neg (by omega), if_neg (by omega), if_neg (by omega), if_pos ⟨rfl, by omega⟩]
      have g1 : gt (plgc (T 121) dv (gt (T 121) dv 0) a sl) dv 1 = a := by rw [gt_plgc hd, if_neg (by omega), if_pos ⟨rfl, rfl⟩]
      have g2 : gt (plgc (T 121) dv (gt (T 121) dv 0) a sl) dv 2 = sl := by rw [gt_plgc hd, if_neg (by omega), if_neg (by omega), if_pos ⟨rfl, rfl⟩]
      unfold SmR SimD
      rw [gk 0 (by omega) (by omega) (by omega) (by omega), gk 3 (by omega) (by omega) (by omega) (by omega), gk 4 (by omega) (by omega) (by omega) (by omega), gk 5 (by omega) (by omega) (by omega) (by omega), gk 6 (by omega) (by omega) (by omega) (by omega), g1, g2, v2, v3]
      rw [hr 0 (by omega) (by omega), hr 1 (by omega) (by omega), hr 4 (by omega) (by omega), hr 5 (by omega) (by omega), hr 15 (by omega) (by omega), hr 16 (by omega) (by omega)]
      refine ⟨q1, q2, fun _ => ⟨d1, rfl, rfl, d4, d5, d6, d7, fun a' a0 a1 => ?_, fun hb => ⟨(d9 hb).1, fun r => absurd r hoff⟩⟩, fun r => absurd h1.2.2 r⟩
      have e1 := d8 a' a0 a1
      have e2 := ob a' a0 (by omega)
      rw [hr _ (by omega) (by omega), hr _ (by omega) (by omega), hr _ (by omega) (by omega), gk (9 + a') (by omega) (by omega) (by omega) (by omega), gk (12 + a') (by omega) (by omega) (by omega) (by omega), gb (15 + a') (by omega) (by omega), e2]
      exact ⟨e1.1, e1.2.1, rfl⟩
    · exact Or.inl ⟨sh_rw q, fun f => by rw [gt_plgc hd, if_neg (fun r => q r.1), if_neg (fun r => q r.1), if_neg (fun r => q r.1), if_neg (fun r => q r.1), if_neg (fun r => q r.1)]⟩
  obtain ⟨w1, w2⟩ := wkb_wkA (o := T 123) (SimW_of hS) (gT_S hgN.1)
  have far : ∀ j : Int, 460 ≤ j → shA A dv a sl j = A j := fun j hj => shA_o (by omega)
  have x121 : pln T dv (gt (T 121) dv 0) a sl 121 = plgc (T 121) dv (gt (T 121) dv 0) a sl := by
    unfold pln
    rw [stw_ne (by omega) (by omega), setc_at]
  have x122 : pln T dv (gt (T 121) dv 0) a sl 122 = T 122 := by
    unfold pln
    rw [stw_ne (by omega) (by omega), setc_ne _ _ (by omega)]
  have x124 : pln T dv (gt (T 121) dv 0) a sl 124 = T 124 := by
    unfold pln
    rw [stw_ne (by omega) (by omega), setc_ne _ _ (by omega)]
  have x120 : pln T dv (gt (T 121) dv 0) a sl 120 = ups (T 120) 4 (wkb (plgc (T 121) dv (gt (T 121) dv 0) a sl) 5 (-1) (T 123, 0)).2 := by
    unfold pln stw
    rw [setc_at, setc_ne _ _ (by omega)]
  have x123 : pln T dv (gt (T 121) dv 0) a sl 123 = (wkb (plgc (T 121) dv (gt (T 121) dv 0) a sl) 5 (-1) (T 123, 0)).1 := by
    unfold pln stw
    rw [setc_ne _ _ (by omega), setc_at]
  refine ⟨⟨?_, ?_, ?_, ?_, ?_, ?_⟩, hgN, ?_⟩
  · rw [x121]
    exact hS
  · rw [x122]
    intro k k0 k1
    rw [far _ (by omega)]
    exact t2 k k0 k1
  · rw [x120, ups_ne _ _ (by omega), far _ (by omega)]
    exact t3
  · rw [x124, far _ (by omega)]
    intro i i0 i1
    rw [far _ (by omega)]
    exact t4 i i0 i1
  · rw [x120, ups_at]
    exact w1
  · rw [x123]
    exact w2
  · rw [x121]
    refine Cls_frame hC' (fun e e0 e1 => ?_)
    by_cases q : e = dv
    · right
      rw [q]
      obtain ⟨c1, c2, c3, c4, c5, c6, c7⟩ := hC' dv hd.1 hd.2
      unfold Clr
      simp only [gt_plgc hd, true_and]
      refine ⟨by simp; exact c1, by simp; exact c2, by simp; exact c3, by simp; exact h4, by simp; exact c5, fun a' a0 a1 => ?_, fun k k0 k1 => ?_⟩
      · have := c6 a' a0 a1
        refine ⟨⟨?_, ?_⟩, ⟨?_, ?_⟩, ?_⟩ <;> (repeat' split) <;> omega
      · obtain ⟨h7, h8, -⟩ := c7 k k0 k1
        refine ⟨⟨?_, ?_⟩, ⟨?_, ?_⟩, fun r1 r2 => ?_⟩
        · (repeat' split) <;> omega
        · (repeat' split) <;> omega
        · (repeat' split) <;> omega
        · (repeat' split) <;> omega
        · clear r1 r2
          refine ⟨?_, ?_⟩ <;> (repeat' split) <;> omega
    · refine Or.inl (fun f => ?_)
      rw [gt_plgc hd, if_neg (fun r => q r.1), if_neg (fun r => q r.1), if_neg (fun r => q r.1), if_neg (fun r => q r.1), if_neg (fun r => q r.1)]
/-- heights -/
theorem hg_eq (hc : SimC c A) (hs : gS A) (hd : thM A dv) : ∀ (n : Nat) (i s : Int), 0 ≤ s → lp (hgf c dv) n i s = lp (hoM A dv) n i s
  | 0, _, _, _ => rfl
  | n + 1, i, s, h0 => by
    simp only [lp]
    have hdp : ∀ x, thM A x → dpf c 5 (gt c x 1) = leM A x := fun x hx => by
      rw [sc_at hc hx, dp_eq (SimW_of hc) hs.2.1 5 _ ((hs.2.1 x hx).imp id (fun r => r.1)), lv_more 4 _ (MU_up hs.1 hx).2]
      rfl
    have e : hgf c dv i s = hoM A dv i s ∧ 0 ≤ hgf c dv i s := by
      unfold hgf hoM
      by_cases ht : thM A i
      · rw [hdp i ht, hdp dv hd, bhB_eq (SimW_of hc) hs.2.1 ht]
        by_cases q : i = dv
        · have hb : ¬ bhM A i dv = true := fun r => by
            have := (bh_ke' hs ht hd r).2.2
            rw [q] at this
            omega
          rw [if_neg (fun r => hb r.2), q]
          rw [if_neg (by omega)]
          exact ⟨rfl, h0⟩
        · by_cases hb : bhM A i dv = true
          · rw [if_pos ⟨(sc_th hc).mpr ht, hb⟩]
            have hw := (wb_iff hs ht).mpr (Or.inr hb)
            by_cases r : s < leM A i - leM A dv
            · rw [if_pos ⟨hw, r⟩]
              omega
            · rw [if_neg (fun t => r t.2)]
              omega
          · rw [if_neg (fun r => hb r.2), if_neg (fun r => ((wb_iff hs ht).mp r.1).elim q hb)]
            exact ⟨rfl, h0⟩
      · rw [if_neg (fun r => ht ((sc_th hc).mp r.1)), if_neg]
        · exact ⟨rfl, h0⟩
        · rintro ⟨r, -⟩
          unfold wbB thB at r
          rw [Bool.or_eq_true, Bool.and_eq_true] at r
          rcases r with r | r
          · exact ht ((of_decide_eq_true r) ▸ hd)
          · exact ht (of_decide_eq_true r.1)
    rw [e.1]
    exact hg_eq hc hs hd n (i + 1) _ (e.1 ▸ e.2)
theorem sp_shift : Sp3 99 (Inv gGd) 90 170 := by
  intro im hI dv _ a _ sl _
  have hh := hI.1.1
  have hT := trl_GdT hI
  have hg := hT.2.1
  have hs : SimC (trl im 121) (im 172) := hT.1.1
  have hS := gT_S hg.1
  refine (c_shift (d := 89) hh).mpr ?_
  have ef : ff (plgB (trl im 121) a sl) 20 0 = ff (isM (im 172) a sl) 20 0 := ff_congr 20 0 (fun _ _ _ => sim_plg hs)
  have hfc := ff_cases (isM (im 172) a sl) 20 0
  have hiff : shB (trl im 121) dv a sl ↔ shM (im 172) dv a sl := by
    have hbh : (a = -1 → ¬ bhB (trl im 121) a dv = true) := fun q => by
      show ¬ bhf (trl im 121) dv 4 (gt (trl im 121) a 1) = true
      rw [q, gt_out (by omega), show bhf (trl im 121) dv 4 (-1) = false from rfl]
      decide
    have hdp : (a = -1 ∨ brM (im 172) a) → dpf (trl im 121) 5 a = lbM (im 172) a := fun q => by
      rw [dp_eq (SimW_of hs) hS.2.1 5 a (q.imp id (fun r => r.1)), lb_eq (q.imp id (fun r => r.1.1))]
    constructor
    · rintro ⟨q1, q2, q3, q4, q5, q6, q7, q8, q9⟩
      have h1 := (sc_th hs).mp q1
      have h3 : a = -1 ∨ brM (im 172) a := q5.imp id (fun r => (sc_br hs).mp r)
      rw [hdp h3, hg_eq hs hS h1 20 0 0 (by omega)] at q9
      refine ⟨h1, fun r => q2 ((sc_on hs).mpr r), ⟨h3, by omega, by omega⟩, fun r => ?_, q9⟩
      rcases h3 with s | s
      · omega
      · rcases (wb_iff hS s.1).mp r.2 with t | t
        · exact q3 t
        · rw [← bhB_eq (SimW_of hs) hS.2.1 s.1] at t
          exact q4 t
    · rintro ⟨h1, h2, ⟨h3, h4, h5⟩, h6, h7⟩
      have hn1 := th_rg h1
      refine ⟨(sc_th hs).mpr h1, fun r => h2 ((sc_on hs).mp r), ?_, ?_, h3.imp id (fun r => (sc_br hs).mpr r), h4.1, by omega, by omega, ?_⟩
      · intro q
        rcases h3 with s | s
        · omega
        · exact h6 ⟨s.1.1, (wb_iff hS s.1).mpr (Or.inl q)⟩
      · rcases h3 with s | s
        · exact hbh s
        · intro q
          rw [bhB_eq (SimW_of hs) hS.2.1 s.1] at q
          exact h6 ⟨s.1.1, (wb_iff hS s.1).mpr (Or.inr q)⟩
      · rw [hdp h3, hg_eq hs hS h1 20 0 0 (by omega)]
        exact h7
  by_cases c1 : shM (im 172) dv a sl
  · rw [if_pos (hiff.mpr c1)]
    have hN := sh_GdT hT c1
    have hX : ∀ p : Nat, p < 120 ∨ 170 < p → pln (trl im) dv (gt (trl im 121) dv 0) a sl p = im p := fun p hp => by
      rw [pln_ne (by omega), trl_ne (by omega)]
    have hK := act_keep hI hX (by rw [pln_ne (by omega)]; exact trl_ch hI) hN
    have e172 := kp172 hI hX
    have eHM := kpHM hI hX
    generalize kp (pln (trl im) dv (gt (trl im 121) dv 0) a sl) = Y at hK e172 eHM ⊢
    refine ⟨_, rfl, (c_shiftM (d := 95) (by rw [e172]; exact hg.1.2.1) eHM).mpr ?_⟩
    rw [e172, if_pos c1]
    exact ⟨rfl, hK⟩
  · rw [if_neg (fun q => c1 (hiff.mp q))]
    refine ⟨_, rfl, (c_shiftM (d := 95) (by rw [trl172]; exact hg.1.2.1) (trlHM hI)).mpr ?_⟩
    rw [trl172, if_neg c1]
    exact ⟨rfl, trl_stay hI⟩
end BG
