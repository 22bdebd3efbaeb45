/-! THE STEPS space and stop; sets that go off -/
section BC
variable {im X Y : zM} {c c' A B : Int → Int} {e f a b x d sl wh nu un ty k kd dv m : Int} {p q : Int → Bool}
theorem cnt_zero : ∀ (n : Nat) (i s : Int), lp (cntf p) n i s ≤ s ↔ ∀ j : Int, i ≤ j → j < i + n → p j = false
  | 0, i, s => by
    simp only [lp]
    exact ⟨fun _ j _ _ => by omega, fun _ => Int.le_refl _⟩
  | n + 1, i, s => by
    simp only [lp]
    by_cases c : p i = true
    · have e1 : cntf p i s = s + 1 := if_pos c
      have h2 := (cntN_bd (p := p) n (i + 1) (cntf p i s)).1
      constructor
      · intro h
        omega
      · intro h
        have := h i (by omega) (by omega)
        rw [c] at this
        exact absurd this (by decide)
    · have e1 : cntf p i s = s := if_neg c
      rw [e1, cnt_zero n (i + 1) s]
      constructor
      · intro h j h0 h1
        by_cases r : j = i
        · rw [r]
          exact Bool.eq_false_iff.mpr c
        · exact h j (by omega) (by omega)
      · exact fun h j h0 h1 => h j (by omega) (by omega)
theorem sp_good (hg : gGd A) (hk : 0 ≤ kd ∧ kd ≤ 1) (hv : 0 ≤ m ∧ m ≤ 1024) (hn : ∀ e, ¬ onM A e) : gGd (ups A (460 + kd) m) := by
  obtain ⟨⟨g1, g2, g3, g4, g5, g6, g7, g8, g9⟩, gO'⟩ := id hg
  have hrw : ∀ e, 0 ≤ e → e < 20 → Rw A (ups A (460 + kd) m) e := fun e e0 e1 f f0 f1 => ups_ne _ _ (by omega)
  have h4 : Sh4 A (ups A (460 + kd) m) := fun e f e0 e1 f0 f1 => ups_ne _ _ (by omega)
  have hno : ∀ e, ¬ onM (ups A (460 + kd) m) e := fun e q => hn e ⟨(Sh4_th h4).mp q.1, by rw [← hrw e q.1.1 (th_rg q.1).2 4 (by omega) (by omega)]; exact q.2⟩
  refine ⟨gT_of h4 hg.1 (MG_frame g1 (fun e e0 e1 => Or.inl (hrw e e0 e1))) (by rw [ups_ne _ _ (by omega)]; exact g3) (fun k k0 k1 => ?_) (fun e q => ?_) (fun e a q a0 a1 => ?_) (fun e k q k0 k1 => ?_), fun e q => absurd q (hno e), fun e q _ => ?_, fun e q => absurd q (hno e), fun e f _ q => absurd q (hno e), fun t k _ _ _ _ q => absurd q.1 (hno _), fun t o k _ _ _ _ _ _ _ q => absurd q.1 (hno _)⟩
  · by_cases r : k = kd
    · rw [r, ups_at]
      exact hv
    · rw [ups_ne _ _ (by omega)]
      exact g4 k k0 k1
  · have hq := (Sh4_br h4).mp q
    rw [hrw e hq.1.1 (th_rg hq.1).2 5 (by omega) (by omega)]
    exact g7 e hq
  · have hq := (Sh4_th h4).mp q
    have hr := th_rg hq
    have := (g1 e hr.1 hr.2).2.2.2.2.1
    rw [hrw e hr.1 hr.2 5 (by omega) (by omega)] at a1
    rw [hrw e hr.1 hr.2 (9 + a) (by omega) (by omega)]
    exact g8 e a hq a0 a1
  · have hq := (Sh4_ep h4).mp q
    have hr := th_rg hq.1
    rw [hrw e hr.1 hr.2 (21 + k) (by omega) (by omega)]
    exact g9 e k hq k0 k1
  · have hq := (Sh4_th h4).mp q
    have hr := th_rg hq
    obtain ⟨o1, o2, o3, o4⟩ := gO'.2.1 e hq (hn e)
    refine ⟨?_, ?_, fun a a0 a1 => ?_, fun k k0 k1 => ⟨?_, ?_⟩⟩
    · rw [hrw e hr.1 hr.2 _ (by omega) (by omega)]; exact o1
    · rw [hrw e hr.1 hr.2 _ (by omega) (by omega)]; exact o2
    · rw [hrw e hr.1 hr.2 _ (by omega) (by omega)]; exact o3 a a0 a1
    · rw [hrw e hr.1 hr.2 _ (by omega) (by omega)]; exact (o4 k k0 k1).1
    · rw [hrw e hr.1 hr.2 _ (by omega) (by omega)]; exact (o4 k k0 k1).2
theorem sp_space : Sp2 99 (Inv gGd) 91 171 := by
  intro im hI kd _ v _
  have hh := hI.1.1
  have hm := hI.1.2.1
  have hT := trl_GdT hI
  obtain ⟨⟨t1, t2, t3, t4, t5, t6⟩, hg, hC⟩ := id hT
  have hs : SimC (trl im 121) (im 172) := t1
  have hcn : lp (cntf (onB (trl im 121))) 20 0 0 ≤ 0 ↔ ∀ e, ¬ onM (im 172) e := by
    rw [cnt_zero]
    constructor
    · intro h e q
      have hr := th_rg q.1
      have := h e hr.1 (by omega)
      rw [sim_onB hs] at this
      exact absurd q (of_decide_eq_false this)
    · intro h j _ _
      rw [sim_onB hs]
      exact decide_eq_false (h j)
  have hbs : bs (onB' (im 172)) = 0 ↔ ∀ e, ¬ onM (im 172) e := by
    rw [bs_eq0]
    constructor
    · intro h e q
      have hr := th_rg q.1
      exact absurd q (of_decide_eq_false (h e hr.1 hr.2))
    · exact fun h j _ _ => decide_eq_false (h j)
  refine (c_space (d := 96) hh).mpr ?_
  by_cases c1 : (0 ≤ kd ∧ kd < 2) ∧ (0 ≤ v ∧ v ≤ 1024) ∧ ∀ e, ¬ onM (im 172) e
  · rw [if_pos ⟨c1.1, c1.2.1, hcn.mpr c1.2.2⟩]
    have hN : GdT gGd (setc (trl im) 122 (ups (trl im 122) kd v)) 120 (ups (im 172) (460 + kd) v) := by
      have h4 : Sh4 (im 172) (ups (im 172) (460 + kd) v) := fun e f e0 e1 f0 f1 => ups_ne _ _ (by omega)
      obtain ⟨w1, w2⟩ := wk_Sh4 h4 (gT_S hg.1)
      refine ⟨⟨?_, ?_, ?_, ?_, ?_, ?_⟩, sp_good hg (by omega) c1.2.1 c1.2.2, ?_⟩
      · rw [setc_ne _ _ (by omega)]
        exact SimC_frame t1 hg.1.1 (fun e e0 e1 => Or.inl ⟨fun f f0 f1 => ups_ne _ _ (by omega), fun _ => rfl⟩)
      · rw [setc_at]
        intro k k0 k1
        by_cases r : k = kd
        · rw [r, ups_at, ups_at]
        · rw [ups_ne _ _ r, ups_ne _ _ (by omega)]
          exact t2 k k0 k1
      · rw [setc_ne _ _ (by omega), ups_ne _ _ (by omega)]
        exact t3
      · rw [setc_ne _ _ (by omega), ups_ne _ _ (by omega)]
        intro i i0 i1
        rw [ups_ne _ _ (by omega)]
        exact t4 i i0 i1
      · rw [setc_ne _ _ (by omega), w1]
        exact t5
      · rw [setc_ne _ _ (by omega), w1]
        intro i i0 i1
        rw [w2 i i0 i1]
        exact t6 i i0 i1
      · rw [setc_ne _ _ (by omega)]
        exact hC
    have hX : ∀ p : Nat, p < 120 ∨ 170 < p → setc (trl im) 122 (ups (trl im 122) kd v) p = im p := fun p hp => by
      rw [setc_ne _ _ (by omega), trl_ne (by omega)]
    have hK := act_keep hI hX (by rw [setc_ne _ _ (by omega)]; exact trl_ch hI) hN
    refine ⟨_, rfl, (c_spaceM (d := 95) (kpHM hI hX)).mpr ?_⟩
    rw [kp172 hI hX, if_pos ⟨by omega, c1.2.1, hbs.mpr c1.2.2⟩]
    exact ⟨rfl, hK⟩
  · rw [if_neg (fun r => c1 ⟨r.1, r.2.1, hcn.mp r.2.2⟩)]
    refine ⟨_, rfl, (c_spaceM (d := 95) (trlHM hI)).mpr ?_⟩
    rw [trl172, if_neg (fun r => c1 ⟨by omega, r.2.1, hbs.mp r.2.2⟩)]
    exact ⟨rfl, trl_stay hI⟩
/-- what a cell is when its device goes off -/
def offv (f v : Int) : Int := if f = 3 then 0 else if f = 7 ∨ f = 8 ∨ (15 ≤ f ∧ f ≤ 19) then -1 else if f = 20 ∨ f = 21 then 0 else v
theorem gt_offf (hd : 0 ≤ d ∧ d < 20) : gt (offf d c) e f = if e = d then offv f (gt c e f) else gt c e f := by
  unfold offf clrf ups gt offv
  by_cases hr : 0 ≤ e ∧ e < 20 ∧ 0 ≤ f ∧ f < 24
  · simp only [if_pos hr]
    (repeat' split) <;> first | rfl | omega
  · simp only [if_neg hr]
    (repeat' split) <;> first | rfl | omega
/-- who goes off with one -/
def toB (c : Int → Int) (dv e : Int) : Bool := decide (gt c e 3 = 1 ∧ (e = dv ∨ bhB c e dv = true))
theorem bhf_congr (h : ∀ e : Int, gt c' e 1 = gt c e 1) : ∀ (n : Nat) (a : Int), bhf c' b n a = bhf c b n a
  | 0, _ => rfl
  | n + 1, a => by
    simp only [bhf, h, bhf_congr h n]
theorem tof_gt : ∀ (n : Nat) (i : Int) (s : (Int → Int) × Int), 0 ≤ i → i + n ≤ 20 → (∀ e f : Int, gt (lp (tof dv) n i s).1 e f = if i ≤ e ∧ e < i + n ∧ toB s.1 dv e = true then offv f (gt s.1 e f) else gt s.1 e f) ∧ (lp (tof dv) n i s).2 = lp (cntf (toB s.1 dv)) n i s.2
  | 0, i, s, _, _ => ⟨fun e f => by
    rw [if_neg (by omega)]
    rfl, rfl⟩
  | n + 1, i, s, h0, h1 => by
    simp only [lp]
    obtain ⟨h2, h3⟩ := tof_gt n (i + 1) (tof dv i s) (by omega) (by omega)
    have h1' : ∀ e : Int, gt (tof dv i s).1 e 1 = gt s.1 e 1 := fun e => by
      unfold tof
      split
      · dsimp only
        rw [gt_offf (by omega)]
        split
        · rfl
        · rfl
      · rfl
    have hbh : ∀ e : Int, bhB (tof dv i s).1 e dv = bhB s.1 e dv := fun e => by
      show bhf _ _ _ _ = bhf _ _ _ _
      rw [h1', bhf_congr h1']
    have hto : ∀ e : Int, e ≠ i → toB (tof dv i s).1 dv e = toB s.1 dv e := fun e he => by
      unfold toB
      refine decide_eq_decide.mpr ?_
      rw [hbh]
      have h3' : gt (tof dv i s).1 e 3 = gt s.1 e 3 := by
        unfold tof
        split
        · dsimp only
          rw [gt_offf (by omega), if_neg he]
        · rfl
      rw [h3']
    constructor
    · intro e f
      rw [h2 e f]
      by_cases he : e = i
      · rw [if_neg (by omega)]
        subst he
        by_cases q : toB s.1 dv e = true
        · rw [if_pos ⟨by omega, by omega, q⟩]
          have e1 : tof dv e s = (offf e s.1, s.2 + 1) := if_pos (of_decide_eq_true q)
          rw [e1]
          dsimp only
          rw [gt_offf (by omega), if_pos rfl]
        · rw [if_neg (fun r => q r.2.2)]
          have e1 : tof dv e s = s := if_neg (fun r => q (decide_eq_true r))
          rw [e1]
      · rw [hto e he]
        have h4 : gt (tof dv i s).1 e f = gt s.1 e f := by
          unfold tof
          split
          · dsimp only
            rw [gt_offf (by omega), if_neg he]
          · rfl
        rw [h4]
        by_cases q : i + 1 ≤ e ∧ e < i + 1 + (n : Int) ∧ toB s.1 dv e = true
        · rw [if_pos q, if_pos ⟨by omega, by omega, q.2.2⟩]
        · rw [if_neg q, if_neg (fun r => q ⟨by omega, by omega, r.2.2⟩)]
    · rw [h3]
      have e2 : (tof dv i s).2 = cntf (toB s.1 dv) i s.2 := by
        unfold tof cntf
        by_cases q : toB s.1 dv i = true
        · rw [if_pos q, if_pos (of_decide_eq_true q)]
        · rw [if_neg q, if_neg (fun r => q (decide_eq_true r))]
      rw [e2]
      exact cnt_congr n (i + 1) _ (fun j j0 j1 => hto j (by omega))
/-- what a number is when its device goes off -/
def ofv (f v : Int) : Int := if f = 4 ∨ f = 21 ∨ f = 22 then 0 else if f = 17 ∨ f = 18 ∨ (12 ≤ f ∧ f ≤ 14) ∨ f = 19 ∨ f = 20 then -1 else v
theorem ofM_row (hf : 0 ≤ f ∧ f < 23) : ofM A d (23 * e + f) = if e = d then ofv f (A (23 * e + f)) else A (23 * e + f) := by
  unfold ofM ofv
  (repeat' split) <;> first | rfl | omega
theorem ofM_far {j : Int} (hd : 0 ≤ d ∧ d < 20) (hj : j < 0 ∨ 460 ≤ j) : ofM A d j = A j := by
  unfold ofM
  rw [if_neg (by omega), if_neg (by omega)]
def offB (p : Int → Bool) (A : Int → Int) (e : Int) : Bool := p e && decide (onM A e)
theorem ffM_row : ∀ (n : Nat) (i : Int) (y : Int × (Int → Int)), 0 ≤ i → i + n ≤ 20 → (∀ e f : Int, 0 ≤ f → f < 23 → (lp (ffM p) n i y).2 (23 * e + f) = if i ≤ e ∧ e < i + n ∧ offB p y.2 e = true then ofv f (y.2 (23 * e + f)) else y.2 (23 * e + f)) ∧ (∀ j : Int, j < 0 ∨ 460 ≤ j → (lp (ffM p) n i y).2 j = y.2 j) ∧ (lp (ffM p) n i y).1 = lp (cntf (offB p y.2)) n i y.1
  | 0, i, y, _, _ => ⟨fun e f _ _ => by
    rw [if_neg (by omega)]
    rfl, fun _ _ => rfl, rfl⟩
  | n + 1, i, y, h0, h1 => by
    simp only [lp]
    obtain ⟨h2, h3, h4⟩ := ffM_row n (i + 1) (ffM p i y) (by omega) (by omega)
    have hrow : ∀ e f : Int, 0 ≤ f → f < 23 → e ≠ i → (ffM p i y).2 (23 * e + f) = y.2 (23 * e + f) := fun e f f0 f1 he => by
      unfold ffM
      split
      · dsimp only
        rw [ofM_row ⟨f0, f1⟩, if_neg he]
      · rfl
    have hto : ∀ e : Int, e ≠ i → offB p (ffM p i y).2 e = offB p y.2 e := fun e he => by
      unfold offB
      refine congrArg (p e && ·) (decide_eq_decide.mpr ?_)
      unfold onM thM
      rw [hrow e 0 (by omega) (by omega) he, hrow e 4 (by omega) (by omega) he]
    have hi : ∀ f : Int, 0 ≤ f → f < 23 → (ffM p i y).2 (23 * i + f) = if offB p y.2 i = true then ofv f (y.2 (23 * i + f)) else y.2 (23 * i + f) := fun f f0 f1 => by
      unfold ffM offB
      by_cases q : p i = true ∧ onM y.2 i
      · rw [if_pos q, q.1, decide_eq_true q.2, if_pos (show (true && true) = true from rfl)]
        dsimp only
        rw [ofM_row ⟨f0, f1⟩, if_pos rfl]
      · rw [if_neg q, if_neg (fun r => by
          rw [Bool.and_eq_true] at r
          exact q ⟨r.1, of_decide_eq_true r.2⟩)]
    refine ⟨fun e f f0 f1 => ?_, fun j hj => ?_, ?_⟩
    · rw [h2 e f f0 f1]
      by_cases he : e = i
      · rw [if_neg (by omega)]
        subst he
        rw [hi f f0 f1]
        by_cases q : offB p y.2 e = true
        · rw [if_pos q, if_pos ⟨by omega, by omega, q⟩]
        · rw [if_neg q, if_neg (fun r => q r.2.2)]
      · rw [hto e he, hrow e f f0 f1 he]
        by_cases q : i + 1 ≤ e ∧ e < i + 1 + (n : Int) ∧ offB p y.2 e = true
        · rw [if_pos q, if_pos ⟨by omega, by omega, q.2.2⟩]
        · rw [if_neg q, if_neg (fun r => q ⟨by omega, by omega, r.2.2⟩)]
    · rw [h3 j hj]
      unfold ffM
      split
      · dsimp only
        exact ofM_far (by omega) hj
      · rfl
    · rw [h4]
      have e2 : (ffM p i y).1 = cntf (offB p y.2) i y.1 := by
        unfold ffM cntf offB
        by_cases q : p i = true ∧ onM y.2 i
        · rw [if_pos q, q.1, decide_eq_true q.2, if_pos (show (true && true) = true from rfl)]
        · rw [if_neg q, if_neg (fun r => by
            rw [Bool.and_eq_true] at r
            exact q ⟨r.1, of_decide_eq_true r.2⟩)]
      rw [e2]
      exact cnt_congr n (i + 1) _ (fun j j0 j1 => hto j (by omega))
end BC
