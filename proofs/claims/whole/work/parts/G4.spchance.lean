/-! THE STEP chance -/
section GE0
variable {im X Y Z T : zM} {c c' cF A B F o w : Int → Int} {e f a b k t x v n N d i dv : Int} {m : Nat} {P q : Int → Bool} {p : Int → Bool}
/-- one draw, class and reference -/
def chC (below : Int) (y : Int × Int × zM) (e : Int) : Int × Int × zM := if ((137 * y.1 + 71) % 1000) % 100 < below then ((137 * y.1 + 71) % 1000, y.2.1 + (y.2.2 120 4 - rmM y.2.2 e 120 4), rmM y.2.2 e) else ((137 * y.1 + 71) % 1000, y.2.1, y.2.2)
def chE (below : Int) (y : Int × Int × (Int → Int)) (e : Int) : Int × Int × (Int → Int) := if ((137 * y.1 + 71) % 1000) % 100 < below then ((137 * y.1 + 71) % 1000, y.2.1 + 1, ups y.2.2 (23 * e + 0) 0) else ((137 * y.1 + 71) % 1000, y.2.1, y.2.2)
theorem ch_fE : ∀ (m : Nat) (i : Int) (y : Int × Int × (Int → Int)), lp (chN F b) m i y = ((rgL i m).map F).foldl (chE b) y
  | 0, _, _ => rfl
  | m + 1, i, y => ch_fE m (i + 1) (chN F b i y)
theorem ch_fC (hc : SimC c A) (hF : WkF A w n) (y : Int × Int × zM) : lp (chf c w n b) n.toNat 0 y = ((lsO w n).filter (fun e => decide (A (23 * e + 1) = 0))).foldl (chC b) y := by
  rw [lp_fl]
  have e2 : (rgL 0 n.toNat).foldl (fun s i => chf c w n b i s) y = (lsO w n).foldl (fun s e => if gt c e 0 = 1 then chC b s e else s) y := by
    unfold lsO
    rw [List.foldl_map]
    have key : ∀ (L : List Int) (s : Int × Int × zM), (∀ i ∈ L, wka w n i = w i) → L.foldl (fun s i => chf c w n b i s) s = L.foldl (fun s i => if gt c (w i) 0 = 1 then chC b s (w i) else s) s := by
      intro L
      induction L with
      | nil => exact fun _ _ => rfl
      | cons i L ih =>
        intro s h
        rw [List.foldl_cons, List.foldl_cons]
        have hi := h i List.mem_cons_self
        have e3 : chf c w n b i s = if gt c (w i) 0 = 1 then chC b s (w i) else s := by
          unfold chf chC
          rw [hi]
        rw [e3]
        exact ih _ (fun j hj => h j (List.mem_cons_of_mem _ hj))
    refine key _ _ (fun i hi => ?_)
    have hi := (mem_rgL _ _ _).mp hi
    have := hF.1
    unfold wka
    rw [if_pos ⟨hi.1, by omega, by omega⟩]
  rw [e2]
  refine fl_filter (P := fun _ => True) _ _ (fun s e he _ => ?_) (fun _ _ _ _ => trivial) trivial
  obtain ⟨j, j0, j1, j2⟩ := mem_lsO.mp he
  have hth := (hF.2.2 e).mp ⟨j, j0, j1, j2⟩
  have hep : gt c e 0 = 1 ↔ A (23 * e + 1) = 0 := by
    rw [sc_ep hc]
    exact ⟨fun q => q.2, fun q => ⟨hth, q⟩⟩
  by_cases r : A (23 * e + 1) = 0
  · rw [if_pos (hep.mpr r), if_pos (decide_eq_true r)]
  · rw [if_neg (fun s => r (hep.mp s)), if_neg (by rw [decide_eq_false r]; decide)]
theorem ch_both : ∀ (l : List Int) (y : Int × Int × zM) (y' : Int × Int × (Int → Int)), l.Nodup → y.1 = y'.1 → y.2.1 = y'.2.1 → GdT gGd y.2.2 120 y'.2.2 → (∀ e ∈ l, epM y'.2.2 e) → (l.foldl (chC b) y).1 = (l.foldl (chE b) y').1 ∧ (l.foldl (chC b) y).2.1 = (l.foldl (chE b) y').2.1 ∧ GdT gGd (l.foldl (chC b) y).2.2 120 (l.foldl (chE b) y').2.2
  | [], y, y', _, h1, h2, h3, _ => ⟨h1, h2, h3⟩
  | e :: l, y, y', hn, h1, h2, h3, h4 => by
    obtain ⟨n1, n2⟩ := List.pairwise_cons.mp hn
    rw [List.foldl_cons, List.foldl_cons]
    by_cases c1 : ((137 * y.1 + 71) % 1000) % 100 < b
    · have he := h4 e List.mem_cons_self
      obtain ⟨r1, r2⟩ := rm_ep h3 he
      have eC : chC b y e = ((137 * y.1 + 71) % 1000, y.2.1 + (y.2.2 120 4 - rmM y.2.2 e 120 4), rmM y.2.2 e) := if_pos c1
      have eE : chE b y' e = ((137 * y'.1 + 71) % 1000, y'.2.1 + 1, ups y'.2.2 (23 * e + 0) 0) := if_pos (by rw [← h1]; exact c1)
      rw [eC, eE]
      refine ch_both l _ _ n2 (by rw [h1]) (by dsimp only; omega) r1 (fun x hx => ?_)
      obtain ⟨⟨t0, t1, t2⟩, t3⟩ := h4 x (List.mem_cons_of_mem _ hx)
      have hne : e ≠ x := n1 x hx
      refine ⟨⟨t0, t1, ?_⟩, ?_⟩
      · dsimp only
        rw [ups_ne _ _ (by omega)]
        exact t2
      · dsimp only
        rw [ups_ne _ _ (by omega)]
        exact t3
    · have eC : chC b y e = ((137 * y.1 + 71) % 1000, y.2.1, y.2.2) := if_neg c1
      have eE : chE b y' e = ((137 * y'.1 + 71) % 1000, y'.2.1, y'.2.2) := if_neg (by rw [← h1]; exact c1)
      rw [eC, eE]
      exact ch_both l _ _ n2 (by rw [h1]) h2 h3 (fun x hx => h4 x (List.mem_cons_of_mem _ hx))
theorem sp_chance : Sp3 99 (Inv gGd) 108 256 := by
  intro im hI a _ b _ v _
  have hh := Inv_hh hI
  have hT := trl_GdT hI
  have g := hT.2.1
  have hC := Inv_c hI
  have hF := Inv_F hI
  have hs := gT_S g.1
  have hnd : ((lsO (im (nowT (im 1 1) + 3)) (im (nowT (im 1 1)) 4)).filter (fun e => decide (im 172 (23 * e + 1) = 0))).Nodup := List.Pairwise.imp (fun h q => by rw [q] at h; omega) (List.Pairwise.filter _ (pw_lsO hF.2.1))
  have hep : ∀ e ∈ (lsO (im (nowT (im 1 1) + 3)) (im (nowT (im 1 1)) 4)).filter (fun e => decide (im 172 (23 * e + 1) = 0)), epM (im 172) e := fun e he => by
    obtain ⟨q1, q2⟩ := List.mem_filter.mp he
    obtain ⟨j, j0, j1, j2⟩ := mem_lsO.mp q1
    exact ⟨(hF.2.2 e).mp ⟨j, j0, j1, j2⟩, of_decide_eq_true q2⟩
  obtain ⟨b1, b2, b3⟩ := ch_both (b := b) _ (a, 0, trl im) (a, 0, im 172) hnd rfl rfl hT hep
  have eS : chS im (nowT (im 1 1)) a b = ((lsO (im (nowT (im 1 1) + 3)) (im (nowT (im 1 1)) 4)).filter (fun e => decide (im 172 (23 * e + 1) = 0))).foldl (chC b) (a, 0, trl im) := ch_fC hC hF _
  rw [← eS] at b1 b2 b3
  have hR : RunOK (chS im (nowT (im 1 1)) a b).2.2 120 := (pow_both b3 yM_172 (yM_DK (im := im))).1
  refine CallP_mono (c_chance (d := 90) (w := v) (below := b) (a := a) hh rfl hF.1 (fun _ _ => hR)) ?_
  intro r Z hz
  obtain ⟨z1, z2⟩ := hz
  refine ⟨_, z1, ?_⟩
  have hZ172 : Z 172 = im 172 := z2 172 (by omega)
  have hIZ : Inv gGd Z := act_stay hI (fun p hp => z2 p (by omega)) (by rw [z2 163 (by omega)]; exact hI.2.2.1)
  have hDZ : DK (Z 176) := hIZ.2.2.2.2
  have hMU : MU (Z 172) := by rw [hZ172]; exact g.1.2.1
  obtain ⟨l1, l2⟩ := le_list hZ172 hs hF
  have eR : chR Z a b = ((lsO (im (nowT (im 1 1) + 3)) (im (nowT (im 1 1)) 4)).filter (fun e => decide (im 172 (23 * e + 1) = 0))).foldl (chE b) (a, 0, im 172) := by
    unfold chR
    rw [ch_fE, hZ172]
    have e2 : (rgL 0 (leW Z).1.toNat).map (leW Z).2 = (lsO (im (nowT (im 1 1) + 3)) (im (nowT (im 1 1)) 4)).filter (fun e => decide (im 172 (23 * e + 1) = 0)) := l1
    rw [e2]
  rw [← eR] at b1 b2 b3
  have h172 : chX Z a b 172 = (chR Z a b).2.2 := setc_at _ _ _
  have h176 : DK (chX Z a b 176) := by
    unfold chX
    rw [setc_ne _ _ (by omega), leX_172.2]
    exact hDZ
  obtain ⟨-, r2, r3, -⟩ := pow_both b3 h172 h176
  obtain ⟨-, cn⟩ := pow_cnt b3 h172 h176
  have e5 : (run2 (chS im (nowT (im 1 1)) a b).2.2 120).2.2 = goA (chX Z a b) 462 := by
    have := r3.1.2.2.1
    rw [mt3_t zT_120, ups_at] at this
    exact this
  refine CallP_mono (c_chanceM (d := 93) (im := Z) (a := a) (b := b) (w := v) hMU (fun _ => r2)) ?_
  intro r' Z' hz'
  obtain ⟨y1, y2⟩ := hz'
  refine ⟨?_, AgE_Inv hIZ y2⟩
  rw [y1, cn, b2, e5]
  by_cases c1 : (0 ≤ a ∧ a < 1000) ∧ (0 ≤ b ∧ b ≤ 100)
  · by_cases c2 : 0 ≤ v ∧ v ≤ 2
    · rw [if_pos ⟨by omega, c1.2, c2⟩, if_pos c1]
      rcases (show v = 0 ∨ v = 1 ∨ v = 2 by omega) with rfl | rfl | rfl
      · rw [if_pos (show (0 : Int) = 0 from rfl), if_pos (show (0 : Int) = 0 from rfl)]
      · rw [if_neg (show ¬ (1 : Int) = 0 by omega), if_neg (show ¬ (1 : Int) = 0 by omega), if_pos (show (1 : Int) = 1 from rfl), if_pos (show (1 : Int) = 1 from rfl)]
      · rw [if_neg (show ¬ (2 : Int) = 0 by omega), if_neg (show ¬ (2 : Int) = 0 by omega), if_neg (show ¬ (2 : Int) = 1 by omega), if_neg (show ¬ (2 : Int) = 1 by omega), if_pos (show (2 : Int) = 2 from rfl)]
    · rw [if_neg (fun s => c2 s.2.2), if_pos c1, if_neg (by omega), if_neg (by omega), if_neg (by omega)]
  · rw [if_neg (fun s => c1 ⟨by omega, s.2.1⟩), if_neg c1]
end GE0
