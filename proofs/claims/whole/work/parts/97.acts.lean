/-! ACTS: what is common to all; what is given stays good where less is ON -/
section AC
variable {im X Y : zM} {c A B : Int → Int} {e f a b p x d : Int}
/-- an act that is refused leaves all but scratch -/
theorem act_stay (hI : Inv gGd im) (hX : ∀ p : Nat, p < 120 ∨ 170 < p → X p = im p) (h3 : ChB (X 163)) : Inv gGd X := by
  have h171 := hX 171 (by omega)
  refine Inv_of gGd_ok hI (fun p hp => hX p (by omega)) ⟨by rw [h171], by rw [h171]⟩ (fun j _ _ => by rw [hX 172 (by omega)]) (fun p hp => hX p (by omega)) ⟨h3, ?_⟩
  exact ⟨by rw [hX 184 (by omega)]; exact hI.2.2.2.1, by rw [hX 176 (by omega)]; exact hI.2.2.2.2⟩
/-- an act that is kept -/
theorem act_keep (hI : Inv gGd im) (hX : ∀ p : Nat, p < 120 ∨ 170 < p → X p = im p) (h3 : ChB (X 163)) (hT : GdT gGd X 120 A) : Inv gGd (setc (kaM (kp X)) 172 A) := by
  have hh := hI.1.1
  have hn := nw_rg (q := (im 1 1 + 1) % 21) (by omega)
  have hk : ∀ p : Nat, 120 ≤ p → kp X p = X p := fun p hp => by
    unfold kp
    rw [setc_ne _ _ (by omega), cpt_ne (by rw [hX 1 (by omega)]; omega)]
  have h171 : kp X 171 = im 171 := by rw [hk _ (by omega), hX _ (by omega)]
  refine Inv_keep gGd_ok hI (X := X) (A := A) (Z := kp X) (fun p hp => hX p (by omega)) hT (fun p hp => ?_) ⟨?_, ?_⟩ ?_ ⟨?_, ?_⟩ ?_ ?_ ⟨?_, ?_⟩ ⟨?_, ?_⟩
  · rw [setc_ne _ _ (by omega), kaM_ne (by omega) (by omega)]
  · rw [hk _ (by omega), hX _ (by omega)]
  · rw [h171]
  · intro j _ _
    rw [hk _ (by omega), hX _ (by omega)]
  · rw [setc_ne _ _ (by omega)]
    unfold kaM
    rw [setc_at, ups_ne _ _ (by omega), ups_at]
  · rw [setc_ne _ _ (by omega)]
    unfold kaM
    rw [setc_at, ups_at]
  · rw [setc_ne _ _ (by omega)]
    unfold kaM
    rw [setc_ne _ _ (by omega), setc_at]
  · intro j _ _
    rw [setc_at]
  · rw [setc_ne _ _ (by omega), kaM_ne (by omega) (by omega), hk _ (by omega), hX _ (by omega)]
  · rw [setc_ne _ _ (by omega), kaM_ne (by omega) (by omega), hk _ (by omega), hX _ (by omega)]
  · rw [setc_ne _ _ (by omega), kaM_ne (by omega) (by omega), hk _ (by omega)]
    exact h3
  · refine ⟨?_, ?_⟩
    · rw [setc_ne _ _ (by omega), kaM_ne (by omega) (by omega), hk _ (by omega), hX _ (by omega)]
      exact hI.2.2.2.1
    · rw [setc_ne _ _ (by omega), kaM_ne (by omega) (by omega), hk _ (by omega), hX _ (by omega)]
      exact hI.2.2.2.2
/-- the trial tree is what is now -/
theorem trl_GdT (hI : Inv gGd im) : GdT gGd (trl im) 120 (im 172) := GdT_cp gGd_ok hI.1.2.2.2.2.1
theorem kp_far {p : Nat} (hI : Inv gGd im) (hX : X 1 = im 1) (hp : 120 ≤ p) : kp X p = X p := by
  have hh := hI.1.1
  have hn := nw_rg (q := (im 1 1 + 1) % 21) (by omega)
  unfold kp
  rw [setc_ne _ _ (by omega), cpt_ne (by rw [hX]; omega)]
theorem gO_less (hg : gO A) (hM : MG A) (hM' : MG B) (hsp : ∀ k : Int, 0 ≤ k → k < 2 → B (460 + k) = A (460 + k)) (hon : ∀ e : Int, onM B e → onM A e ∧ ∀ f : Int, 0 ≤ f → f < 23 → B (23 * e + f) = A (23 * e + f)) (hup : gUp B) (hoff : gOff B) : gO B := by
  obtain ⟨-, -, g3, g4, g5, g6⟩ := hg
  have hbu : ∀ e, onM B e → buM B e = buM A e := fun e he => by
    unfold buM
    rw [(hon e he).2 2 (by omega) (by omega)]
  have hbus : ∀ e, onM B e → ∀ k : Int, 0 ≤ k → k < 2 → beM B (buM B e) k = beM A (buM A e) k ∧ wiM B (buM B e) k = wiM A (buM A e) k ∧ fsM B (buM B e) = fsM A (buM A e) ∧ lsM B (buM B e) = lsM A (buM A e) := fun e he k k0 k1 => by
    rw [← hbu e he]
    rcases hup e he with q | q
    · have e20 : buM B e = 20 := by
        unfold buM
        rw [if_pos (by omega)]
      unfold beM wiM fsM lsM
      rw [e20]
      simp only [if_true]
      exact ⟨trivial, hsp k k0 k1, trivial, trivial⟩
    · have e20 : buM B e = B (23 * e + 2) := by
        unfold buM
        rw [if_neg (by have := q.1.1; omega)]
      have hr := (hon _ q).2
      have hn : ¬ B (23 * e + 2) = 20 := by have := (th_rg q.1).2; omega
      unfold beM wiM fsM lsM
      rw [e20]
      simp only [if_neg hn]
      exact ⟨hr _ (by omega) (by omega), hr _ (by omega) (by omega), hr _ (by omega) (by omega), hr _ (by omega) (by omega)⟩
  have hit : ∀ t k : Int, 0 ≤ t → t < 80 → 0 ≤ k → k < 2 → itM B t k → itM A t k ∧ bgT B t k = bgT A t k ∧ wdT B t k = wdT A t k := fun t k t0 t1 k0 k1 hi => by
    obtain ⟨h1, h2⟩ := hon _ hi.1
    have hd := de_rg ⟨t0, t1⟩
    have h3 := hi.2
    unfold bgT wdT bsT szT itM
    unfold deM at h1 h2 h3 hd ⊢
    by_cases q : t < 60
    · simp only [if_pos q] at h1 h2 h3 hd ⊢
      rw [h2 5 (by omega) (by omega), h2 (6 + t % 3) (by omega) (by omega)] at h3
      exact ⟨⟨h1, h3⟩, h2 _ (by omega) (by omega), h2 _ (by omega) (by omega)⟩
    · simp only [if_neg q] at h1 h2 h3 hd ⊢
      rw [h2 (21 + k) (by omega) (by omega)] at h3
      exact ⟨⟨h1, h3⟩, h2 _ (by omega) (by omega), h2 _ (by omega) (by omega)⟩
  refine ⟨hup, hoff, fun e he hb => ?_, fun e f hne he hb hf hb' hat => ?_, fun t k t0 t1 k0 k1 hi => ?_, fun t o k t0 t1 o0 o1 hne k0 k1 hi ho hat => ?_⟩
  · obtain ⟨h1, h2⟩ := hon e he
    obtain ⟨-, -, b3, b4⟩ := hbus e he 0 (by omega) (by omega)
    rw [h2 1 (by omega) (by omega)] at hb
    rw [b3, b4, h2 17 (by omega) (by omega), h2 18 (by omega) (by omega)]
    exact g3 e h1 hb
  · obtain ⟨h1, h2⟩ := hon e he
    obtain ⟨h3, h4⟩ := hon f hf
    rw [h2 1 (by omega) (by omega)] at hb
    rw [h4 1 (by omega) (by omega)] at hb'
    rw [h2 2 (by omega) (by omega), h4 2 (by omega) (by omega)] at hat
    rw [h2 17 (by omega) (by omega), h2 18 (by omega) (by omega), h4 17 (by omega) (by omega), h4 18 (by omega) (by omega)]
    exact g4 e f hne h1 hb h3 hb' hat
  · obtain ⟨h1, h2, h3⟩ := hit t k t0 t1 k0 k1 hi
    obtain ⟨b1, b2, -, -⟩ := hbus _ hi.1 k k0 k1
    rw [b1, b2, h2, h3]
    exact g5 t k t0 t1 k0 k1 h1
  · obtain ⟨h1, h2, h3⟩ := hit t k t0 t1 k0 k1 hi
    obtain ⟨h4, h5, h6⟩ := hit o k o0 o1 k0 k1 ho
    rw [(hon _ hi.1).2 2 (by omega) (by omega), (hon _ ho.1).2 2 (by omega) (by omega)] at hat
    rw [h2, h3, h5, h6]
    exact g6 t o k t0 t1 o0 o1 hne k0 k1 h1 h4 hat
/-- a way up of so many steps -/
theorem up_lv (hp : gPar A) (hu : MU A) : ∀ (n : Nat) (b : Int), (b = -1 ∨ thM A b) → lvM A 5 b ≤ n → upM A n b
  | 0, b, hb, h => by
    rcases hb with q | q
    · exact (show b < 0 by omega)
    · have hn : ¬ b < 0 := by have := q.1; omega
      rw [lvM, if_neg hn] at h
      have := (lvM_bd (A := A) 4 (A (23 * b + 2))).1
      omega
  | n + 1, b, hb, h => by
    simp only [upM]
    rcases hb with q | q
    · exact Or.inl (by omega)
    · have hn : ¬ b < 0 := by have := q.1; omega
      have hm := MU_up hu q
      refine Or.inr ⟨(th_rg q).2, hm.1, up_lv hp hu n _ ((hp b q).imp id (fun r => r.1)) ?_⟩
      rw [lvM, if_neg hn] at h
      rw [lv_more 4 _ hm.2]
      omega
/-- ways up where nothing of the way has changed -/
theorem up_frame (hp : gPar A) (hAB : ∀ e : Int, thM A e → B (23 * e + 2) = A (23 * e + 2) ∧ B (23 * e + 3) = A (23 * e + 3)) : ∀ (n : Nat) (b : Int), (b = -1 ∨ thM A b) → upM A n b → upM B n b
  | 0, b, _, h => h
  | n + 1, b, hb, h => by
    simp only [upM] at h ⊢
    rcases h with q | ⟨q1, q2, q3⟩
    · exact Or.inl q
    · rcases hb with r | r
      · exact Or.inl (by omega)
      · obtain ⟨e1, e2⟩ := hAB b r
        refine Or.inr ⟨q1, by rw [e2]; exact q2, ?_⟩
        rw [e1]
        exact up_frame hp hAB n _ ((hp b r).imp id (fun s => s.1)) q3
end AC
