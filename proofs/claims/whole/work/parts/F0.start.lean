/-! POWER-UP: all OFF, numbered -/
section FA0
variable {X Y : zM} {c c' c0 cR A B w o O0 : Int → Int} {e f a b k t x v n d i q m : Int} {on on' : Int → Bool} {y : zNB} {z : zNo}
theorem off_all : ∀ (m : Nat) (i : Int) (c : Int → Int), 0 ≤ i → i + m ≤ 20 → ∀ e f : Int, gt (lp offf m i c) e f = if i ≤ e ∧ e < i + m then offv f (gt c e f) else gt c e f
  | 0, i, c, _, _ => fun e f => by
    rw [if_neg (by omega)]
    rfl
  | m + 1, i, c, h0, h1 => fun e f => by
    simp only [lp]
    rw [off_all m (i + 1) (offf i c) (by omega) (by omega) e f, gt_offf (by omega)]
    by_cases q : e = i
    · rw [if_neg (by omega), if_pos q, if_pos (by omega)]
    · rw [if_neg q]
      by_cases r : i + 1 ≤ e ∧ e < i + 1 + (m : Int)
      · rw [if_pos r, if_pos (by omega)]
      · rw [if_neg r, if_neg (by omega)]
theorem th_of : thM (ofM A d) e ↔ thM A e := by
  unfold thM
  constructor
  · rintro ⟨h0, h1, h2⟩
    refine ⟨h0, h1, ?_⟩
    rw [ofM_row (by omega)] at h2
    split at h2
    · exact h2
    · exact h2
  · rintro ⟨h0, h1, h2⟩
    refine ⟨h0, h1, ?_⟩
    rw [ofM_row (by omega)]
    split
    · exact h2
    · exact h2
theorem th_pu : thM (puF d A) e ↔ thM A e := by
  unfold puF
  split
  · exact th_of
  · exact Iff.rfl
theorem pu_row : ∀ (m : Nat) (i : Int) (A : Int → Int), 0 ≤ i → i + m ≤ 20 → (∀ e f : Int, 0 ≤ f → f < 23 → lp puF m i A (23 * e + f) = if (i ≤ e ∧ e < i + m) ∧ thM A e then ofv f (A (23 * e + f)) else A (23 * e + f)) ∧ ∀ j : Int, 460 ≤ j → lp puF m i A j = A j
  | 0, i, A, _, _ => ⟨fun e f _ _ => by
    rw [if_neg (by omega)]
    rfl, fun _ _ => rfl⟩
  | m + 1, i, A, h0, h1 => by
    obtain ⟨g1, g2⟩ := pu_row m (i + 1) (puF i A) (by omega) (by omega)
    simp only [lp]
    refine ⟨fun e f f0 f1 => ?_, fun j hj => ?_⟩
    · rw [g1 e f f0 f1]
      have er : puF i A (23 * e + f) = if e = i ∧ thM A i then ofv f (A (23 * e + f)) else A (23 * e + f) := by
        unfold puF
        by_cases q : thM A i
        · rw [if_pos q, ofM_row ⟨f0, f1⟩]
          by_cases r : e = i
          · rw [if_pos r, if_pos ⟨r, q⟩]
          · rw [if_neg r, if_neg (fun s => r s.1)]
        · rw [if_neg q, if_neg (fun s => q s.2)]
      by_cases q : e = i
      · rw [if_neg (by omega), er]
        by_cases r : thM A i
        · rw [if_pos ⟨q, r⟩, if_pos ⟨by omega, by rw [q]; exact r⟩]
        · rw [if_neg (fun s => r s.2), if_neg (fun s => r (by rw [← q]; exact s.2))]
      · have er' : puF i A (23 * e + f) = A (23 * e + f) := by rw [er, if_neg (fun s => q s.1)]
        rw [er']
        by_cases r : (i + 1 ≤ e ∧ e < i + 1 + (m : Int)) ∧ thM A e
        · rw [if_pos ⟨r.1, th_pu.mpr r.2⟩, if_pos ⟨by omega, r.2⟩]
        · rw [if_neg (fun s => r ⟨s.1, th_pu.mp s.2⟩), if_neg (fun s => r ⟨by omega, s.2⟩)]
    · rw [g2 j hj]
      unfold puF
      split
      · exact ofM_far (by omega) (Or.inr hj)
      · rfl
/-- what of a row is the tree's, not given -/
def StF (f : Int) : Prop := 0 ≤ f ∧ f < 23 ∧ f ≠ 4 ∧ (f < 12 ∨ f = 15 ∨ f = 16)
def StR (A B : Int → Int) : Prop := ∀ e f : Int, 0 ≤ e → e < 20 → StF f → B (23 * e + f) = A (23 * e + f)
theorem StR_4 (h : StR A B) : Sh4 A B := fun e f e0 e1 f0 f1 => h e f e0 e1 ⟨f0, by omega, by omega, by omega⟩
theorem gT_st (h : StR A B) (g : gT A) (hM : MG B) (h462 : 0 ≤ B 462 ∧ B 462 ≤ 20) (hsp : ∀ k : Int, 0 ≤ k → k < 2 → B (460 + k) = A (460 + k)) (hew : gEw B) : gT B := by
  have h4 := StR_4 h
  refine gT_of h4 g hM h462 (fun k k0 k1 => by rw [hsp k k0 k1]; exact g.2.2.2.1 k k0 k1) (fun e he => ?_) (fun e x he x0 x1 => ?_) hew
  · have hb := (Sh4_br h4).mp he
    rw [h e 5 hb.1.1 (th_rg hb.1).2 (by unfold StF; omega)]
    exact g.2.2.2.2.2.2.1 e hb
  · have ht := (Sh4_th h4).mp he
    have hr := th_rg ht
    have h5 := MG_many g.1 hr
    rw [h e 5 hr.1 hr.2 (by unfold StF; omega)] at x1
    rw [h e (9 + x) hr.1 hr.2 (by unfold StF; omega)]
    exact g.2.2.2.2.2.2.2.1 e x ht x0 x1
theorem WkF_Sh4 (h4 : Sh4 A B) (hs : gS A) (hF : WkF A w n) : WkF B w n := by
  obtain ⟨w1, w2⟩ := wk_Sh4 h4 hs
  obtain ⟨u1, u2⟩ := WkF_uniq hF (wk_F hs)
  have hB := wk_F (gS_of h4 hs)
  rw [w1, ← u1] at hB
  exact WkF_congr hB (fun i i0 i1 => by rw [w2 i i0 (by omega)]; exact u2 i i0 i1)
/-- all is OFF -/
theorem pu_good (hg : gGd A) : gT (puA A) ∧ StR A (puA A) ∧ (∀ j : Int, 460 ≤ j → j ≠ 462 → puA A j = A j) ∧ puA A 462 = 0 ∧ ∀ e, thM A e → puA A (23 * e + 4) = 0 ∧ puA A (23 * e + 17) = -1 ∧ puA A (23 * e + 18) = -1 ∧ (∀ x : Int, 0 ≤ x → x < 3 → puA A (23 * e + (12 + x)) = -1) ∧ ∀ k : Int, 0 ≤ k → k < 2 → puA A (23 * e + (19 + k)) = -1 ∧ puA A (23 * e + (21 + k)) = 0 := by
  obtain ⟨h1, h2⟩ := pu_row 20 0 A (Int.le_refl _) (by omega)
  have hrow : ∀ e f : Int, 0 ≤ e → e < 20 → 0 ≤ f → f < 23 → puA A (23 * e + f) = if thM A e then ofv f (A (23 * e + f)) else A (23 * e + f) := fun e f e0 e1 f0 f1 => by
    unfold puA
    rw [ups_ne _ _ (by omega), h1 e f f0 f1]
    by_cases q : thM A e
    · rw [if_pos ⟨by omega, q⟩, if_pos q]
    · rw [if_neg (fun s => q s.2), if_neg q]
  have hhi : ∀ j : Int, 460 ≤ j → j ≠ 462 → puA A j = A j := fun j hj hne => by
    unfold puA
    rw [ups_ne _ _ hne]
    exact h2 j hj
  have h462 : puA A 462 = 0 := ups_at ..
  have hst : StR A (puA A) := fun e f e0 e1 hf => by
    unfold StF at hf
    rw [hrow e f e0 e1 hf.1 hf.2.1]
    unfold ofv
    (repeat' split) <;> first | rfl | omega
  have hth : ∀ e, thM A e → ∀ f : Int, 0 ≤ f → f < 23 → puA A (23 * e + f) = ofv f (A (23 * e + f)) := fun e he f f0 f1 => by rw [hrow e f (th_rg he).1 (th_rg he).2 f0 f1, if_pos he]
  refine ⟨gT_st hst hg.1 (MG_frame hg.1.1 (fun e e0 e1 => ?_)) (by rw [h462]; omega) (fun k k0 k1 => hhi _ (by omega) (by omega)) (fun e k he k0 k1 => ?_), hst, hhi, h462, fun e he => ?_⟩
  · by_cases q : thM A e
    · right
      have hv := hth e q
      obtain ⟨m1, m2, m3, m4, m5, m6, m7, m8, m9, m10, m11⟩ := hg.1.1 e e0 e1
      unfold MGr
      rw [hv 1 (by omega) (by omega), hv 2 (by omega) (by omega), hv 3 (by omega) (by omega), hv 4 (by omega) (by omega), hv 5 (by omega) (by omega), hv 15 (by omega) (by omega), hv 16 (by omega) (by omega), hv 17 (by omega) (by omega), hv 18 (by omega) (by omega)]
      refine ⟨m1, m2, m3, ⟨show (0 : Int) ≤ 0 by omega, show (0 : Int) ≤ 1 by omega⟩, m5, fun x x0 x1 => ?_, m7, m8, ⟨show (-1 : Int) ≤ -1 by omega, show (-1 : Int) ≤ 31 by omega⟩, ⟨show (-1 : Int) ≤ -1 by omega, show (-1 : Int) ≤ 31 by omega⟩, fun k k0 k1 => ?_⟩
      · have := m6 x x0 x1
        rw [hv _ (by omega) (by omega), hv _ (by omega) (by omega), hv _ (by omega) (by omega)]
        unfold ofv
        refine ⟨?_, ?_, ?_⟩ <;> (repeat' split) <;> omega
      · have := m11 k k0 k1
        rw [hv _ (by omega) (by omega), hv _ (by omega) (by omega)]
        unfold ofv
        refine ⟨?_, ?_⟩ <;> (repeat' split) <;> omega
    · left
      intro f f0 f1
      rw [hrow e f e0 e1 f0 f1, if_neg q]
  · have hq := (Sh4_ep (StR_4 hst)).mp he
    rw [hth e hq.1 (21 + k) (by omega) (by omega), hg.1.2.2.2.2.2.2.2.2 e k hq k0 k1]
    unfold ofv
    (repeat' split) <;> omega
  · have hv := hth e he
    refine ⟨by rw [hv 4 (by omega) (by omega)]; rfl, by rw [hv 17 (by omega) (by omega)]; rfl, by rw [hv 18 (by omega) (by omega)]; rfl, fun x x0 x1 => ?_, fun k k0 k1 => ?_⟩
    · rw [hv _ (by omega) (by omega)]
      unfold ofv
      (repeat' split) <;> omega
    · rw [hv _ (by omega) (by omega), hv _ (by omega) (by omega)]
      unfold ofv
      refine ⟨?_, ?_⟩ <;> (repeat' split) <;> omega
/-- numbers are given to bridges that go ON alone -/
def NbO (c c0 : Int → Int) : Prop := (∀ e, gt c e 0 = gt c0 e 0) ∧ (∀ e, gt c0 e 3 = 1 → gt c e 3 = 1) ∧ ∀ e, ¬ (gt c e 3 = 1 ∧ gt c e 0 = 2) → gt c e 7 = gt c0 e 7 ∧ gt c e 8 = gt c0 e 8
theorem NbO_refl : NbO c c := ⟨fun _ => rfl, fun _ h => h, fun _ _ => ⟨rfl, rfl⟩⟩
theorem NbO_trans {c2 : Int → Int} (h : NbO c c') (h' : NbO c' c2) : NbO c c2 := ⟨fun e => by rw [h.1, h'.1], fun e q => h.2.1 e (h'.2.1 e q), fun e q => by
  obtain ⟨a1, a2⟩ := h.2.2 e q
  obtain ⟨b1, b2⟩ := h'.2.2 e (fun r => q ⟨h.2.1 e r.1, by rw [h.1]; exact r.2⟩)
  exact ⟨by rw [a1, b1], by rw [a2, b2]⟩⟩
theorem NbO_3 (he : 0 ≤ e ∧ e < 20) : NbO (stc c e 3 1) c := ⟨fun x => by rw [gt_stc, if_neg (by omega)], fun x q => by
  rw [gt_stc]
  split
  · rfl
  · exact q, fun x _ => ⟨by rw [gt_stc, if_neg (by omega)], by rw [gt_stc, if_neg (by omega)]⟩⟩
theorem NbO_78 (hf : f = 7 ∨ f = 8) (h3 : gt c e 3 = 1) (h0 : gt c e 0 = 2) : NbO (stc c e f v) c := ⟨fun x => by rw [gt_stc, if_neg (by omega)], fun x q => by rw [gt_stc, if_neg (by omega)]; exact q, fun x q => by
  have hx : x ≠ e := fun r => q (by
    rw [gt_stc, if_neg (by omega), gt_stc, if_neg (by omega), r]
    exact ⟨h3, h0⟩)
  exact ⟨by rw [gt_stc, if_neg (fun s => hx s.1)], by rw [gt_stc, if_neg (fun s => hx s.1)]⟩⟩
theorem nbG_O {rec : Int → Int → (Int → Int) → zNB} (hr : ∀ e f c, NbO (rec e f c).2 c) (y : zNB) (e : Int) (he : 0 ≤ e ∧ e < 20) : NbO (nbG rec y e).2 y.2 := by
  unfold nbG
  split
  · rename_i h2
    split
    · have k1 := NbO_3 (c := y.2) he
      have e3 : gt (stc y.2 e 3 1) e 3 = 1 := by rw [gt_stc, if_pos ⟨rfl, rfl, he.1, he.2, by omega, by omega⟩]
      have e0 : gt (stc y.2 e 3 1) e 0 = 2 := by rw [k1.1, h2]
      have k2 := NbO_78 (f := 7) (v := y.1) (Or.inl rfl) e3 e0
      have k3 := hr e (y.1 + 1) (stc (stc y.2 e 3 1) e 7 y.1)
      have k4 := NbO_trans k3 (NbO_trans k2 k1)
      dsimp only
      refine NbO_trans (NbO_78 (f := 8) (Or.inr rfl) (k3.2.1 e (k2.2.1 e e3)) ?_) k4
      rw [k4.1, h2]
    · exact NbO_refl
  · exact NbO_3 he
theorem nbS_O : ∀ (l : Nat) (a f : Int) (c : Int → Int), NbO (nbS w n l a f c).2 c
  | 0, _, _, _ => NbO_refl
  | l + 1, a, f, c => by
    refine lp_keep (P := fun y : zNB => NbO y.2 c) (fun i y hy => ?_) n.toNat 0 (f, c) NbO_refl
    rw [nbf_G]
    by_cases q : gt y.2 (wka w n i) 1 = a
    · rw [if_pos q]
      by_cases he : 0 ≤ wka w n i ∧ wka w n i < 20
      · exact NbO_trans (nbG_O (nbS_O l) y _ he) hy
      · have h2 : ¬ gt y.2 (wka w n i) 0 = 2 := by
          rw [gt_out he]
          omega
        unfold nbG
        rw [if_neg h2]
        dsimp only
        unfold stc
        rw [if_neg (fun r => he ⟨r.1, r.2.1⟩)]
        exact hy
    · rw [if_neg q]
      exact hy
end FA0
