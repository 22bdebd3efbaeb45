/-! SEATING without moves: class and reference -/
section CI
variable {im X Y : zM} {c c' c0 s sp A B w w' T : Int → Int} {e f a b x y d k m n u un st bg en bu v sz ad dv nt i : Int} {z z0 M L : zSS} {p q r : Int → Bool}
theorem rw_0 (m : Nat) (P : zPl) : ((fr1 sp dv a k 0 P).1 = 1 → rwS sp dv a k 0 (m + 1) P = fr1 sp dv a k 0 P) ∧ ((fr1 sp dv a k 0 P).1 ≠ 1 → (rwS sp dv a k 0 (m + 1) P).1 = 0 ∧ (rwS sp dv a k 0 (m + 1) P).2.1 = P.1) := by
  simp only [rwS]
  refine ⟨fun h => if_pos h, fun h => ?_⟩
  rw [if_neg h]
  have e : (nrS 0 P.2.2.1.2.2.2.2.2 P.2.2.2.2.2).1 = 0 := rfl
  rw [if_pos e]
  exact ⟨rfl, rfl⟩
theorem fl_0 {P : zPl} (h : 0 ≤ P.2.2.1.2.2.2.2.2) : ((fr1 sp dv a k 0 (plc P (chI 0 P.2.2.2.2.2))).1 = 1 → flS sp dv a k 1 0 P = fr1 sp dv a k 0 (plc P (chI 0 P.2.2.2.2.2))) ∧ ((fr1 sp dv a k 0 (plc P (chI 0 P.2.2.2.2.2))).1 ≠ 1 → (flS sp dv a k 1 0 P).1 = 0 ∧ (flS sp dv a k 1 0 P).2.1 = P.1) := by
  obtain ⟨h1, h2⟩ := rw_0 (sp := sp) (dv := dv) (a := a) (k := k) 9999 (plc P (chI 0 P.2.2.2.2.2))
  have e : (9999 : Nat) + 1 = 10000 := rfl
  rw [e] at h1 h2
  simp only [flS]
  rw [if_pos h]
  refine ⟨fun q => ?_, fun q => ?_⟩
  · rw [h1 q, if_pos q]
  · obtain ⟨h3, h4⟩ := h2 q
    rw [if_neg (show ¬ (rwS sp dv a k 0 10000 (plc P (chI 0 P.2.2.2.2.2))).1 = 1 by omega)]
    exact ⟨rfl, h4⟩
theorem kind_start (hR : RC A c0 w n a dv sp) (hk : 0 ≤ k ∧ k < 2) {P : zPl} (hK : KcR A P.1 c0 k) (T W V' : Int → Int) (hW : ∀ b : Int, 0 ≤ b → b < A (23 * dv + 5) → A (23 * dv + (6 + b)) = k → W b < 0) : (flS sp dv a k 1 0 (tkP w n a k P)).2.1 = P.1 ∧ (((flS sp dv a k 1 0 (tkP w n a k P)).1 = 0 ∧ (fiI A dv (bfM a) k 4 (laT A T (bfM a) k, W)).1 = 0) ∨ ((flS sp dv a k 1 0 (tkP w n a k P)).1 = 1 ∧ (fiI A dv (bfM a) k 4 (laT A T (bfM a) k, W)).1 = 1 ∧ ∃ (nm : Int) (τM R : Int → Int), mvL c0 w n a k = (rgL 0 nm.toNat).map τM ∧ 0 ≤ nm ∧ ChR R 0 nm ∧ RowX A c0 w n a k dv nm 0 τM R (flS sp dv a k 1 0 (tkP w n a k P)).2.2.2.2.2.1 W (fiI A dv (bfM a) k 4 (laT A T (bfM a) k, W)).2.2 V')) := by
  obtain ⟨g, hc, hC, hF, ha, hd, hsp⟩ := id hR
  have hr := th_rg hd.1.1
  have h5 := MG_many g.1.1 hr
  have hw := bw_now g ha hk
  have hbg := wbg_nn hw
  obtain ⟨τM, s1, s2, s3, s4, s5, s6⟩ := shp_tk hR hk hK
  have hP1 : (plc (tkP w n a k P) (chI 0 (tkP w n a k P).2.2.2.2.2)).1 = P.1 := rfl
  obtain ⟨f1, f2⟩ := fl_0 (sp := sp) (dv := dv) (a := a) (k := k) (P := tkP w n a k P) s4.1
  have hch : ChR (plc (tkP w n a k P) (chI 0 (tkP w n a k P).2.2.2.2.2)).2.2.2.2.2 0 (tkP w n a k P).2.2.1.2.2.2.2.2 := ⟨by omega, fun j j0 j1 => by omega, fun x y x0 xy y1 => by omega⟩
  obtain ⟨τ, N, n1, n2, n3, n4, n5, -⟩ := row_cls hR hk (P := plc (tkP w n a k P) (chI 0 (tkP w n a k P).2.2.2.2.2)) (len := 0) hK s1 s2 s3 s4 s5 hch s6
  have eM : (plc (tkP w n a k P) (chI 0 (tkP w n a k P).2.2.2.2.2)).2.2.1 = (tkP w n a k P).2.2.1 := rfl
  rw [eM] at n4
  generalize hRR : (plc (tkP w n a k P) (chI 0 (tkP w n a k P).2.2.2.2.2)).2.2.2.2.2 = RR at *
  have hTR : TR (laT A T (bfM a) k) ((stL c0 w n a k (tkP w n a k P).2.2.1.2.2.2.2.2 0 τM RR).map (prT A k)) := fun u u0 u1 => by
    rw [TR_la (T := T) (bu := bfM a) (k := k) g.1.1 u u0 u1, smL_map, smL_map, st_sum hR hk s4.1 s5 hch]
    have : smL (fun j => cvP u (prT A k (τM (RR j)))) (rgL 0 (0 : Int).toNat) = 0 := rfl
    rw [this]
    omega
  have hids : ∀ p ∈ (stL c0 w n a k (tkP w n a k P).2.2.1.2.2.2.2.2 0 τM RR).map (prT A k), 1 ≤ p.2 := fun p hp => by
    obtain ⟨t, ht, rfl⟩ := List.mem_map.mp hp
    refine (th_bd g hk (?_ : ThN A a k t)).1
    unfold stL at ht
    rcases List.mem_append.mp ht with h | h
    · exact (thL_now hc g hF (Cls_HsB hC) hk).mp (List.mem_filter.mp h).1
    · obtain ⟨j, hj, rfl⟩ := List.mem_map.mp h
      have hj := (mem_rgL _ _ _).mp (List.mem_filter.mp hj).1
      refine ((mem_mvL hR hk).mp ?_).1
      rw [s5]
      exact List.mem_map.mpr ⟨j, (mem_rgL _ _ _).mpr hj, rfl⟩
  have hmem : ∀ t, t ∈ (rgL 0 N.toNat).map τ ↔ ∃ b : Int, 0 ≤ b ∧ b < A (23 * dv + 5) ∧ A (23 * dv + (6 + b)) = k ∧ t = 3 * dv + b := fun t => by
    rw [n3, mem_unL hR]
    constructor
    · rintro (h | ⟨i, i0, i1, -⟩)
      · exact h
      · omega
    · exact Or.inl
  have hRem : RemO A W dv k ((rgL 0 N.toNat).map τ) := by
    refine ⟨n2, fun t => ?_⟩
    rw [hmem]
    constructor
    · rintro ⟨b, b0, b1, b2, rfl⟩
      exact ⟨b, b0, b1, ⟨b2, hW b b0 b1 b2⟩, rfl⟩
    · rintro ⟨b, b0, b1, b2, rfl⟩
      exact ⟨b, b0, b1, b2.1, rfl⟩
  have hSz : SzP A ((rgL 0 N.toNat).map τ) := fun t ht => (un_rec hR hk (Or.inl ((own_rg hR).mpr ((hmem t).mp ht)))).2.2.2
  have nd1 : ((rgL 0 N.toNat).map τ).Nodup := List.Pairwise.imp (fun hxy q => by rw [q] at hxy; exact bef_asym hxy hxy) n2
  have hcount : ∀ l : List Int, smL (fun _ => (1 : Int)) l = l.length := fun l => by
    induction l with
    | nil => rfl
    | cons x l ih =>
      simp only [smL, List.length_cons, ih]
      omega
  have hlen : ((rgL 0 N.toNat).map τ).length < 4 := by
    have h1 := smL_uniq (g := fun _ => (1 : Int)) _ _ nd1 (pw_nodup (pw_apsL (A := A) (k := k) hr.1 hr.2 (Cls_HsB hC dv hr.1 hr.2))) (fun t => by rw [hmem, own_rg hR])
    rw [hcount, hcount] at h1
    have h2 := own_len (k := k) hR
    omega
  have hrun := fi_run g.1.1 hr hw 4 ((rgL 0 N.toNat).map τ) _ W _ hlen hTR hids hRem hSz
  have hE : FrE ((stL c0 w n a k (tkP w n a k P).2.2.1.2.2.2.2.2 0 τM RR).map (prT A k)) ((stL c0 w n a k (tkP w n a k P).2.2.1.2.2.2.2.2 0 τM RR).map (prT A k)) := fun _ _ => Iff.rfl
  rcases n4 with ⟨a1, a2⟩ | ⟨a1, a2, a3, a4⟩
  · obtain ⟨g1, g2⟩ := f2 (by omega)
    refine ⟨g2, ?_⟩
    rcases hrun with ⟨b1, -⟩ | ⟨b1, ps, b2, -⟩
    · exact Or.inl ⟨g1, b1⟩
    · exact absurd (PlO_PlF hbg _ _ _ ps hE b2 a2) id
  · have hf := f1 a1
    rw [hf]
    refine ⟨rfl, ?_⟩
    rcases hrun with ⟨b1, b2⟩ | ⟨b1, ps, b2, b3, b4⟩
    · exact absurd (PlO_PlF hbg _ _ _ _ hE a2 b2) id
    · have hps := PlO_uniq hbg _ _ _ _ _ hE a2 b2
      rw [← hps, zip_idx] at b4
      refine Or.inr ⟨a1, b1, (tkP w n a k P).2.2.1.2.2.2.2.2, τM, RR, s5, s4.1, hch, τ, N, n1, n2, n3, a2, a3, a4, fun j j0 j1 hj => ?_, fun i j i0 i1 => by omega, fun b hb0 hb1 hb => ?_⟩
      · exact b4 _ _ (List.mem_map.mpr ⟨j, (mem_rgL _ _ _).mpr ⟨j0, by omega⟩, rfl⟩)
      · exact b3 b (fun hin => by
          obtain ⟨b', b0', b1', b2', h⟩ := (hmem _).mp hin
          have : b = b' := by omega
          subst this
          exact hb ⟨b1', b2'⟩)
/-- START of an endpoint: both kinds -/
theorem seat_start (hR : RC A c0 w n a dv sp) : ∀ (m : Nat) (k mv : Int) (P : zPl) (y : (Int → Int) × (Int → Int)), 0 ≤ k → k + m = 2 → 0 ≤ mv → (∀ b : Int, 0 ≤ b → b < A (23 * dv + 5) → k ≤ A (23 * dv + (6 + b)) → y.2 b < 0) → SeR A c0 a dv k P.1 y.2 A → ((seS w sp n dv a 0 m k mv P).1 = -1 ∧ (fiK A dv (bfM a) m k y).1 = 0) ∨ (0 ≤ (seS w sp n dv a 0 m k mv P).1 ∧ (fiK A dv (bfM a) m k y).1 = 1 ∧ SeR A c0 a dv 2 (seS w sp n dv a 0 m k mv P).2.1 (fiK A dv (bfM a) m k y).2.2 A)
  | 0, k, mv, P, y, k0, k1, m0, hy, h => by
    simp only [seS, fiK]
    have : k = 2 := by omega
    subst this
    exact Or.inr ⟨m0, trivial, h⟩
  | m + 1, k, mv, P, y, k0, k1, m0, hy, h => by
    obtain ⟨g, hc, hC, hF, ha, hd, hsp⟩ := id hR
    have hr := th_rg hd.1.1
    have hk : 0 ≤ k ∧ k < 2 := by omega
    have hK := h.1
    have hu := unt_kc hR hK
    have e4 : ((0 : Int) + 1).toNat = 1 := rfl
    simp only [seS, fiK]
    rw [e4, hu]
    by_cases c1 : unM A dv k = 0
    · rw [if_pos c1]
      have hno : noM A y.2 dv k = -1 := by
        rcases no_sp (W := y.2) (k := k) g.1.1 hr with ⟨q1, q2⟩ | ⟨q1, q2, q3⟩
        · omega
        · exact absurd q2.1 (un0_no hR c1 q1.1 q1.2)
      have hfi : ∀ T, fiI A dv (bfM a) k 4 (T, y.2) = (1, (T, y.2)) := fun T => by
        simp only [fiI]
        rw [if_pos (by rw [hno]; omega)]
      rw [hfi, if_pos rfl]
      exact seat_start hR m (k + 1) mv P _ (by omega) (by omega) m0 (fun b b0 b1 b2 => hy b b0 b1 (by omega)) (se_skip hR hk h c1)
    · rw [if_neg c1]
      obtain ⟨f1, f2⟩ := kind_start hR hk (P := P) hK y.1 y.2 (fun _ => 0) (fun b b0 b1 b2 => hy b b0 b1 (by omega))
      have htot := tot_kc (z := P.2.1) hR hk hK
      have hlen := len_kc hR hk hK
      generalize flS sp dv a k 1 0 (tkP w n a k P) = F at *
      generalize fiI A dv (bfM a) k 4 (laT A y.1 (bfM a) k, y.2) = G at *
      rcases f2 with ⟨q1, q2⟩ | ⟨q1, q2, nm, τM, R, x1, x2, x3, x6⟩
      · left
        rw [if_neg (show ¬ G.1 = 1 by omega), if_neg (show ¬ F.1 = 1 by omega)]
        refine ⟨?_, rfl⟩
        split <;> rfl
      · have hK' : KcR A F.2.1 c0 k := by rw [f1]; exact hK
        obtain ⟨s1, s2, s3, s4, s5, s6, s7⟩ := set_kind hR hk hK' x1 x2 x3 x6
        rw [if_pos q2, if_pos q1, htot, hlen, if_pos s7]
        have hmp : 0 ≤ (stS F.2.2.2.2.2.1 dv F.2.1).1 := by
          rw [s5]
          exact smL_nn _ (fun i _ => by split <;> omega)
        refine seat_start hR m (k + 1) _ _ _ (by omega) (by omega) (by omega) (fun b b0 b1 b2 => ?_) ?_
        · obtain ⟨τ, N, -, -, -, -, -, -, -, -, x9⟩ := id x6
          have h5 := MG_many g.1.1 hr
          rw [x9 b b0 (by omega) (fun q => by omega)]
          exact hy b b0 b1 (by omega)
        · exact se_step hR hk (c := F.2.1) (by rw [f1]; exact h) x1 x2 x3 x6 (fun i i0 i1 => by omega) (fun j hj => rfl)
end CI
