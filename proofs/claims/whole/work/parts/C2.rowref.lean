/-! ONE ROW TRIED: the reference; both -/
section CC
variable {im X Y : zM} {c c' c0 s sp A B w w' T : Int → Int} {e f a b x y d k m n u un st bg en bu v sz ad dv nt i : Int} {z z0 M L : zSS} {p q r : Int → Bool}
theorem mk_cv2 {v s : Int} : mkT T v s (-1) u = T u - cvP u (v, s) := by
  unfold mkT cvP
  dsimp only
  split <;> omega
theorem prT_lt {t : Int} (h : t < 60) : prT A k t = (bsT A t, szT A t) := by
  unfold prT bgT wdT
  rw [if_pos h, if_pos h]
theorem ltV_sp {Mv R : Int → Int} : ∀ (m : Nat) (i : Int) (y : (Int → Int) × (Int → Int)), (∀ j : Int, i ≤ j → j < i + m → Mv (R j) < 60) → (∀ u, (lp (ltV A Mv R) m i y).1 u = y.1 u - smL (fun j => cvP u (prT A k (Mv (R j)))) (rgL i m)) ∧ (∀ j : Int, i ≤ j → j < i + m → (lp (ltV A Mv R) m i y).2 j = -1) ∧ ∀ j : Int, j < i → (lp (ltV A Mv R) m i y).2 j = y.2 j
  | 0, i, y, _ => ⟨fun u => by simp only [lp, rgL, smL]; omega, fun j j0 j1 => by omega, fun _ _ => rfl⟩
  | m + 1, i, y, hM => by
    simp only [lp]
    obtain ⟨h1, h2, h3⟩ := ltV_sp (Mv := Mv) (R := R) m (i + 1) (ltV A Mv R i y) (fun j j0 j1 => hM j (by omega) (by omega))
    have e1 : (ltV A Mv R i y).1 = mkT y.1 (bsT A (Mv (R i))) (szT A (Mv (R i))) (-1) := rfl
    have e2 : (ltV A Mv R i y).2 = ups y.2 i (-1) := rfl
    refine ⟨fun u => ?_, fun j j0 j1 => ?_, fun j hj => ?_⟩
    · rw [h1, e1, mk_cv2, rgL]
      simp only [smL]
      rw [prT_lt (hM i (Int.le_refl _) (by omega))]
      omega
    · by_cases q : j = i
      · rw [q, h3 i (by omega), e2, ups_at]
      · exact h2 j (by omega) (by omega)
    · rw [h3 j (by omega), e2, ups_ne _ _ (by omega)]
theorem ldW_sp {W : Int → Int} : ∀ (m : Nat) (i : Int) (W : Int → Int) (b : Int), lp (ldWf A dv k) m i W b = if i ≤ b ∧ b < i + m ∧ A (23 * dv + (6 + b)) = k then -1 else W b
  | 0, i, W, b => by
    rw [if_neg (by omega)]
    rfl
  | m + 1, i, W, b => by
    simp only [lp]
    rw [ldW_sp (W := W) m (i + 1) (ldWf A dv k i W) b]
    by_cases q : i + 1 ≤ b ∧ b < i + 1 + m ∧ A (23 * dv + (6 + b)) = k
    · rw [if_pos q, if_pos ⟨by omega, by omega, q.2.2⟩]
    · rw [if_neg q]
      unfold ldWf
      by_cases q2 : A (23 * dv + (6 + i)) = k
      · rw [if_pos q2]
        by_cases q3 : b = i
        · rw [q3, ups_at, if_pos ⟨by omega, by omega, q2⟩]
        · rw [ups_ne _ _ q3, if_neg (fun r => q ⟨by omega, by omega, r.2.2⟩)]
      · rw [if_neg q2]
        by_cases q3 : b = i
        · rw [if_neg (fun r => q2 (q3 ▸ r.2.2))]
        · rw [if_neg (fun r => q ⟨by omega, by omega, r.2.2⟩)]
theorem smL_split {α : Type} (h : α → Int) (p : α → Bool) : ∀ l : List α, smL h l = smL h (l.filter p) + smL h (l.filter (fun x => !p x))
  | [] => rfl
  | x :: l => by
    rw [List.filter_cons, List.filter_cons]
    have := smL_split h p l
    cases hp : p x
    · simp only [smL, Bool.not_false, if_true, Bool.false_eq_true, if_false]
      omega
    · simp only [smL, Bool.not_true, if_true, Bool.false_eq_true, if_false]
      omega
theorem cho_list {ch : Int → Int} {len nm : Int} (h : ChR ch len nm) (hn : 0 ≤ nm) : (rgL 0 nm.toNat).filter (Cho ch len) = (rgL 0 len.toNat).map ch := by
  refine pw_uniq (k := fun x => x) _ _ (List.Pairwise.filter _ (pw_rgL _ _)) (pw_of_idx (fun a b a0 ab b1 => h.2.2 a b a0 ab (by have := h.1; omega))) (fun x => ?_)
  rw [List.mem_filter, mem_rgL, cho_iff h.1, List.mem_map]
  constructor
  · rintro ⟨-, j, j0, j1, j2⟩
    exact ⟨j, (mem_rgL _ _ _).mpr ⟨j0, by omega⟩, j2⟩
  · rintro ⟨j, hj, rfl⟩
    have hj := (mem_rgL _ _ _).mp hj
    have hl := h.1
    have := h.2.1 j hj.1 (by omega)
    exact ⟨by omega, j, hj.1, by omega, rfl⟩
theorem st_sum (hR : RC A c0 w n a dv sp) (hk : 0 ≤ k ∧ k < 2) {τM ch : Int → Int} {len nm : Int} (hn : 0 ≤ nm) (hτ : mvL c0 w n a k = (rgL 0 nm.toNat).map τM) (hch : ChR ch len nm) (h : Int → Int) : smL h (stL c0 w n a k nm len τM ch) = smL h (reT A (bfM a) k) - smL (fun j => h (τM (ch j))) (rgL 0 len.toNat) := by
  obtain ⟨g, hc, hC, hF, ha, hd, hsp⟩ := id hR
  have e1 := sum_both hc g hF (Cls_HsB hC) hk (bus_rg ha) h
  have e2 := smL_split h (fun t => decide (t < 60)) (thL c0 w n a k)
  have e3 : smL h (mvL c0 w n a k) = smL (fun j => h (τM j)) (rgL 0 nm.toNat) := by rw [hτ, smL_map]
  have e4 := smL_split (fun j => h (τM j)) (Cho ch len) (rgL 0 nm.toNat)
  rw [cho_list hch hn, smL_map] at e4
  have e5 : (thL c0 w n a k).filter (fun t => !decide (t < 60)) = fxL c0 w n a k := by
    unfold fxL
    refine List.filter_congr (fun t _ => ?_)
    rw [decide_not]
  rw [e5] at e2
  unfold stL
  rw [smL_app, smL_map]
  have e6 : (thL c0 w n a k).filter (fun t => decide (t < 60)) = mvL c0 w n a k := rfl
  rw [e6] at e2
  omega
/-- what a row laid down by both means -/
def RowX (A c0 w : Int → Int) (n a k dv nm len : Int) (τM R : Int → Int) (L : zSS) (W W' V' : Int → Int) : Prop := ∃ (τ : Int → Int) (N : Int), (0 ≤ N ∧ N ≤ 6) ∧ List.Pairwise (bef A dv) ((rgL 0 N.toNat).map τ) ∧ (∀ t, t ∈ (rgL 0 N.toNat).map τ ↔ t ∈ unL c0 dv k len τM R) ∧ PlO (wbg A (bfM a) k) (wbg A (bfM a) k + wiM A (bfM a) k) (szT A) ((stL c0 w n a k nm len τM R).map (prT A k)) ((rgL 0 N.toNat).map τ) ((rgL 0 N.toNat).map L.2.2.2.2.1) ∧ L.2.2.2.2.2 = N ∧ (∀ j : Int, 0 ≤ j → j < N → L.1 j = deM (τ j) ∧ L.2.1 j = apV (τ j)) ∧ (∀ j : Int, 0 ≤ j → j < N → deM (τ j) = dv → W' (τ j - 3 * dv) = L.2.2.2.2.1 j) ∧ (∀ i j : Int, 0 ≤ i → i < len → 0 ≤ j → j < N → τM (R i) = τ j → V' i = L.2.2.2.2.1 j) ∧ ∀ b : Int, 0 ≤ b → b < 3 → ¬ (b < A (23 * dv + 5) ∧ A (23 * dv + (6 + b)) = k) → W' b = W b
theorem zip_idx {α β : Type} (f : Int → α) (h : Int → β) : ∀ (m : Nat) (i : Int), ((rgL i m).map f).zip ((rgL i m).map h) = (rgL i m).map (fun j => (f j, h j))
  | 0, _ => rfl
  | m + 1, i => by
    simp only [rgL, List.map_cons, List.zip_cons_cons, zip_idx f h m (i + 1)]
theorem row_both (hR : RC A c0 w n a dv sp) (hk : 0 ≤ k ∧ k < 2) {P : zPl} {len : Int} {τM : Int → Int} {r : zRb} (hK : KcR A P.1 c0 k) (hB : shL P.2.1 = (thL c0 w n a k).map (recC c0 k)) (hBn : 0 ≤ P.2.1.2.2.2.2.2 ∧ P.2.1.2.2.2.2.2 ≤ 24) (hMv : shL P.2.2.1 = (mvL c0 w n a k).map (recC c0 k)) (hMn : 0 ≤ P.2.2.1.2.2.2.2.2 ∧ P.2.2.1.2.2.2.2.2 ≤ 24) (hτ : mvL c0 w n a k = (rgL 0 P.2.2.1.2.2.2.2.2.toNat).map τM) (hch : ChR P.2.2.2.2.2 len P.2.2.1.2.2.2.2.2) (hfl : (fxL c0 w n a k).length + P.2.2.1.2.2.2.2.2 ≤ 24) (hrM : ∀ j : Int, 0 ≤ j → j < P.2.2.1.2.2.2.2.2 → r.2.2.1 j = τM j) (hrR : ∀ j : Int, 0 ≤ j → j < len → r.2.2.2.1 j = P.2.2.2.2.2 j) (hrn : r.2.2.2.2.2.2 = len) : ((fr1 sp dv a k len P).1 = 0 ∧ (ltR A dv (bfM a) k r).1 = 0) ∨ ((fr1 sp dv a k len P).1 = 1 ∧ (ltR A dv (bfM a) k r).1 = 1 ∧ RowX A c0 w n a k dv P.2.2.1.2.2.2.2.2 len τM P.2.2.2.2.2 (fr1 sp dv a k len P).2.2.2.2.2.1 r.2.1 (ltR A dv (bfM a) k r).2.2.1 (ltR A dv (bfM a) k r).2.2.2.2.2.1) := by
  obtain ⟨g, hc, hC, hF, ha, hd, hsp⟩ := id hR
  have hr := th_rg hd.1.1
  have h5 := MG_many g.1.1 hr
  obtain ⟨hl, hc1, hc2⟩ := id hch
  have hw := bw_now g ha hk
  have hwb := wbg_bd hw
  obtain ⟨τ, N, n1, n2, n3, n4, -⟩ := row_cls hR hk hK hB hBn hMv hMn hτ hch hfl
  have hmv : ∀ j : Int, 0 ≤ j → j < len → τM (P.2.2.2.2.2 j) ∈ mvL c0 w n a k := fun j j0 j1 => by
    have := hc1 j j0 j1
    rw [hτ]
    exact List.mem_map.mpr ⟨_, (mem_rgL _ _ _).mpr ⟨this.1, by omega⟩, rfl⟩
  have hMR : ∀ j : Int, 0 ≤ j → j < len → r.2.2.1 (r.2.2.2.1 j) = τM (P.2.2.2.2.2 j) := fun j j0 j1 => by
    rw [hrR j j0 j1]
    have := hc1 j j0 j1
    exact hrM _ this.1 this.2
  have hK2 : RowK A r.2.2.1 r.2.2.2.1 dv len := by
    refine ⟨fun j j0 j1 => ?_, fun i j i0 ij j1 => ?_⟩
    · rw [hMR j j0 j1]
      obtain ⟨⟨t0, t1, ⟨to, ti⟩, tb⟩, t6⟩ := (mem_mvL hR hk).mp (hmv j j0 j1)
      exact ⟨t0, t6, fun q => hd.2 (q ▸ to)⟩
    · rw [hMR i i0 (by omega), hMR j (by omega) j1]
      have hi := hc1 i i0 (by omega)
      have hj := hc1 j (by omega) j1
      have hpw := pw_mvL (k := k) hR
      rw [hτ] at hpw
      exact pw_idx _ _ hpw _ _ hi.1 (hc2 i j i0 ij j1) (by omega)
  obtain ⟨v1, v2, v3⟩ := ltV_sp (A := A) (k := k) (Mv := r.2.2.1) (R := r.2.2.2.1) len.toNat 0 (laT A r.1 (bfM a) k, r.2.2.2.2.1) (fun j j0 j1 => (hK2.1 j j0 (by omega)).2.1)
  dsimp only at v1 v3
  have hTR : TR (lp (ltV A r.2.2.1 r.2.2.2.1) len.toNat 0 (laT A r.1 (bfM a) k, r.2.2.2.2.1)).1 ((stL c0 w n a k P.2.2.1.2.2.2.2.2 len τM P.2.2.2.2.2).map (prT A k)) := fun u u0 u1 => by
    rw [v1 u, TR_la (T := r.1) (bu := bfM a) (k := k) g.1.1 u u0 u1, smL_map, smL_map, st_sum hR hk hMn.1 hτ hch]
    have : smL (fun j => cvP u (prT A k (r.2.2.1 (r.2.2.2.1 j)))) (rgL 0 len.toNat) = smL (fun j => cvP u (prT A k (τM (P.2.2.2.2.2 j)))) (rgL 0 len.toNat) := smL_congr _ (fun j hj => by
      have hj := (mem_rgL _ _ _).mp hj
      rw [hMR j hj.1 (by omega)])
    rw [this]
  have hids : ∀ p ∈ (stL c0 w n a k P.2.2.1.2.2.2.2.2 len τM P.2.2.2.2.2).map (prT A k), 1 ≤ p.2 := fun p hp => by
    obtain ⟨t, ht, rfl⟩ := List.mem_map.mp hp
    refine (th_bd g hk (?_ : ThN A a k t)).1
    unfold stL at ht
    rcases List.mem_append.mp ht with h | h
    · exact (thL_now hc g hF (Cls_HsB hC) hk).mp (List.mem_filter.mp h).1
    · obtain ⟨j, hj, rfl⟩ := List.mem_map.mp h
      have hj := (mem_rgL _ _ _).mp (List.mem_filter.mp hj).1
      refine ((mem_mvL hR hk).mp ?_).1
      rw [hτ]
      exact List.mem_map.mpr ⟨j, (mem_rgL _ _ _).mpr hj, rfl⟩
  have hldW : ∀ b, ldW A dv k r.2.1 b = if 0 ≤ b ∧ b < A (23 * dv + 5) ∧ A (23 * dv + (6 + b)) = k then -1 else r.2.1 b := fun b => by
    unfold ldW
    rw [ldW_sp (W := r.2.1)]
    rw [show (0 : Int) + ((A (23 * dv + 5)).toNat : Int) = A (23 * dv + 5) by omega]
  have hmU : ∀ t, t ∈ unL c0 dv k len τM P.2.2.2.2.2 ↔ (∃ b : Int, 0 ≤ b ∧ b < A (23 * dv + 5) ∧ A (23 * dv + (6 + b)) = k ∧ t = 3 * dv + b) ∨ (∃ i : Int, 0 ≤ i ∧ i < len ∧ t = τM (P.2.2.2.2.2 i)) := fun t => by
    unfold unL
    rw [List.mem_append, own_rg hR, List.mem_map]
    refine or_congr Iff.rfl ?_
    constructor
    · rintro ⟨j, hj, rfl⟩
      have hj := (mem_rgL _ _ _).mp hj
      exact ⟨j, hj.1, by omega, rfl⟩
    · rintro ⟨j, j0, j1, rfl⟩
      exact ⟨j, (mem_rgL _ _ _).mpr ⟨j0, by omega⟩, rfl⟩
  have hRem : RemT A (ldW A dv k r.2.1) (lp (ltV A r.2.2.1 r.2.2.2.1) len.toNat 0 (laT A r.1 (bfM a) k, r.2.2.2.2.1)).2 r.2.2.1 r.2.2.2.1 dv k len ((rgL 0 N.toNat).map τ) := by
    refine ⟨n2, fun t => ?_⟩
    rw [n3, hmU]
    refine or_congr ⟨?_, ?_⟩ ⟨?_, ?_⟩
    · rintro ⟨b, b0, b1, b2, rfl⟩
      exact ⟨b, b0, b1, ⟨b2, by rw [hldW, if_pos ⟨b0, b1, b2⟩]; omega⟩, rfl⟩
    · rintro ⟨b, b0, b1, b2, rfl⟩
      exact ⟨b, b0, b1, b2.1, rfl⟩
    · rintro ⟨i, i0, i1, rfl⟩
      exact ⟨i, i0, i1, by rw [v2 i i0 (by omega)]; omega, (hMR i i0 i1).symm⟩
    · rintro ⟨i, i0, i1, -, rfl⟩
      exact ⟨i, i0, i1, hMR i i0 i1⟩
  have hSz : SzP A ((rgL 0 N.toNat).map τ) := fun t ht => by
    have ht := (n3 t).mp ht
    unfold unL at ht
    refine (un_rec hR hk (?_ : t ∈ apsL c0 dv k ∨ t ∈ mvL c0 w n a k)).2.2.2
    rcases List.mem_append.mp ht with h | h
    · exact Or.inl h
    · obtain ⟨j, hj, rfl⟩ := List.mem_map.mp h
      have hj := (mem_rgL _ _ _).mp hj
      exact Or.inr (hmv j hj.1 (by omega))
  have hlen : ((rgL 0 N.toNat).map τ).length = N.toNat := by rw [List.length_map, rgL_len]
  have hrun := lt_run g.1.1 hr hw hl.1 hK2 7 ((rgL 0 N.toNat).map τ) _ _ _ _ (by rw [hlen]; omega) hTR hids hRem hSz
  have hlt : ltI A r.2.2.1 r.2.2.2.1 len dv (bfM a) k 7 ((lp (ltV A r.2.2.1 r.2.2.2.1) len.toNat 0 (laT A r.1 (bfM a) k, r.2.2.2.2.1)).1, ldW A dv k r.2.1, (lp (ltV A r.2.2.1 r.2.2.2.1) len.toNat 0 (laT A r.1 (bfM a) k, r.2.2.2.2.1)).2) = ltT A dv (bfM a) k r := by
    unfold ltT
    rw [hrn]
  rw [hlt] at hrun
  have hE : FrE ((stL c0 w n a k P.2.2.1.2.2.2.2.2 len τM P.2.2.2.2.2).map (prT A k)) ((stL c0 w n a k P.2.2.1.2.2.2.2.2 len τM P.2.2.2.2.2).map (prT A k)) := fun _ _ => Iff.rfl
  have hbg := wbg_nn hw
  rcases n4 with ⟨a1, a2⟩ | ⟨a1, a2, a3, a4⟩
  · rcases hrun with ⟨b1, -⟩ | ⟨b1, ps, b2, -⟩
    · exact Or.inl ⟨a1, b1⟩
    · exact absurd (PlO_PlF hbg _ _ _ ps hE b2 a2) id
  · rcases hrun with ⟨b1, b2⟩ | ⟨b1, ps, b2, b3, b4, b5, b6⟩
    · exact absurd (PlO_PlF hbg _ _ _ _ hE a2 b2) id
    · have hps := PlO_uniq hbg _ _ _ _ _ hE a2 b2
      rw [← hps, zip_idx] at b5 b6
      refine Or.inr ⟨a1, b1, τ, N, n1, n2, n3, a2, a3, a4, fun j j0 j1 hj => ?_, fun i j i0 i1 j0 j1 hij => ?_, fun b hb0 hb1 hb => ?_⟩
      · exact b5 _ _ (List.mem_map.mpr ⟨j, (mem_rgL _ _ _).mpr ⟨j0, by omega⟩, rfl⟩) hj
      · refine b6 i _ i0 i1 (List.mem_map.mpr ⟨j, (mem_rgL _ _ _).mpr ⟨j0, by omega⟩, ?_⟩)
        rw [hMR i i0 i1, hij]
      · have : (ltR A dv (bfM a) k r).2.2.1 b = ldW A dv k r.2.1 b := b3 b (fun hin => by
          rcases (hmU _).mp ((n3 _).mp hin) with ⟨b', b0', b1', b2', h⟩ | ⟨i, i0, i1, h⟩
          · have : b = b' := by omega
            subst this
            exact hb ⟨b1', b2'⟩
          · obtain ⟨⟨t0, t1, ⟨to, ti⟩, tb⟩, t6⟩ := (mem_mvL hR hk).mp (hmv i i0 i1)
            rw [← h] at to t6 t0
            rw [(de_ap hr.1 hr.2 hb0 hb1).1] at to
            exact hd.2 to)
        rw [this, hldW, if_neg (fun q => hb ⟨q.2.1, q.2.2⟩)]
end CC
