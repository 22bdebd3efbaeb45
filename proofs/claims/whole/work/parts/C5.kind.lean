/-! ONE KIND SEATED -/
section CF
variable {im X Y : zM} {c c' c0 s sp A B w w' T : Int → Int} {e f a b x y d k m n u un st bg en bu v sz ad dv nt i : Int} {z z0 M L : zSS} {p q r : Int → Bool}
theorem pw_any {α : Type} {R : α → α → Prop} (hs : ∀ x y, R x y → R y x) : ∀ l : List α, List.Pairwise R l → ∀ x ∈ l, ∀ y ∈ l, x ≠ y → R x y
  | [], _, x, hx, _, _, _ => absurd hx List.not_mem_nil
  | z :: l, h, x, hx, y, hy, hxy => by
    obtain ⟨h1, h2⟩ := List.pairwise_cons.mp h
    rcases List.mem_cons.mp hx with qx | qx
    · rcases List.mem_cons.mp hy with qy | qy
      · exact absurd (qx.trans qy.symm) hxy
      · rw [qx]
        exact h1 y qy
    · rcases List.mem_cons.mp hy with qy | qy
      · rw [qy]
        exact hs _ _ (h1 x qx)
      · exact pw_any hs l h2 x qx y qy hxy
theorem nodup_apsR (hM : MG A) (he : 0 ≤ e ∧ e < 20) : (apsR A e k).Nodup := by
  have h5 := MG_many hM he
  refine pw_nodup (g := fun t => t) ?_
  unfold apsR
  refine pw_flat _ (fun x _ => ?_) ?_
  · split
    · exact List.pairwise_singleton ..
    · exact List.Pairwise.nil
  · refine List.Pairwise.imp_of_mem ?_ (pw_rgL (A (23 * e + 5)).toNat 0)
    intro x y hx hy hxy u hu v hv
    have eu : u = 3 * e + x := by
      split at hu
      · exact List.mem_singleton.mp hu
      · exact absurd hu List.not_mem_nil
    have ev : v = 3 * e + y := by
      split at hv
      · exact List.mem_singleton.mp hv
      · exact absurd hv List.not_mem_nil
    omega
theorem PlO_geo2 {h : Int → Int} (hb : 0 ≤ bg) : ∀ (S : List Int) (l : List (Int × Int)) (ps : List Int), (∀ t ∈ S, 0 ≤ h t) → PlO bg en h l S ps → Geo bg en l → Geo bg en ((S.zip ps).reverse.map (fun x => (x.2, h x.1)) ++ l)
  | [], l, ps, _, h1, hg => by
    simpa using hg
  | t :: S, l, [], _, h1, _ => absurd h1 id
  | t :: S, l, r :: ps, hh, h1, hg => by
    obtain ⟨⟨a1, a2⟩, a3⟩ := h1
    have hg' : Geo bg en ((r, h t) :: l) := by
      rcases a2 with ⟨b1, -⟩ | ⟨b1, b2, b3, b4, -⟩
      · omega
      · refine ⟨List.pairwise_cons.mpr ⟨fun q hq => ?_, hg.1⟩, fun q hq => ?_⟩
        · have := b4 q hq
          dsimp only
          omega
        · rcases List.mem_cons.mp hq with rfl | hq
          · exact ⟨b1, b3, hh t List.mem_cons_self⟩
          · exact hg.2 q hq
    have := PlO_geo2 hb S _ ps (fun x hx => hh x (List.mem_cons_of_mem _ hx)) a3 hg'
    rw [List.zip_cons_cons, List.reverse_cons, List.map_append, List.append_assoc]
    exact this
theorem mem_unL (hR : RC A c0 w n a dv sp) {len t : Int} {τM R : Int → Int} : t ∈ unL c0 dv k len τM R ↔ (∃ b : Int, 0 ≤ b ∧ b < A (23 * dv + 5) ∧ A (23 * dv + (6 + b)) = k ∧ t = 3 * dv + b) ∨ (∃ i : Int, 0 ≤ i ∧ i < len ∧ t = τM (R i)) := by
  unfold unL
  rw [List.mem_append, own_rg hR, List.mem_map]
  refine or_congr Iff.rfl ?_
  constructor
  · rintro ⟨j, hj, rfl⟩
    have hj := (mem_rgL _ _ _).mp hj
    exact ⟨j, hj.1, by omega, rfl⟩
  · rintro ⟨j, j0, j1, rfl⟩
    exact ⟨j, (mem_rgL _ _ _).mpr ⟨j0, by omega⟩, rfl⟩
theorem mem_cho {len nm : Int} {τM R : Int → Int} (hτ : mvL c0 w n a k = (rgL 0 nm.toNat).map τM) (hch : ChR R len nm) {i : Int} (i0 : 0 ≤ i) (i1 : i < len) : τM (R i) ∈ mvL c0 w n a k := by
  have := hch.2.1 i i0 i1
  rw [hτ]
  exact List.mem_map.mpr ⟨_, (mem_rgL _ _ _).mpr ⟨this.1, by omega⟩, rfl⟩
theorem τM_inj (hR : RC A c0 w n a dv sp) {nm : Int} {τM : Int → Int} (hτ : mvL c0 w n a k = (rgL 0 nm.toNat).map τM) {i j : Int} (i0 : 0 ≤ i) (i1 : i < nm) (j0 : 0 ≤ j) (j1 : j < nm) (h : τM i = τM j) : i = j := by
  have hpw := pw_mvL (k := k) hR
  rw [hτ] at hpw
  rcases Int.lt_trichotomy i j with q | q | q
  · have := pw_idx _ _ hpw i j i0 q (by omega)
    rw [h] at this
    omega
  · exact q
  · have := pw_idx _ _ hpw j i j0 q (by omega)
    rw [h] at this
    omega
/-- a thing of the kind on the bus, dv's own among them -/
def InK (A : Int → Int) (a dv k t : Int) : Prop := ThN A a k t ∨ ((0 ≤ t ∧ t < 60) ∧ deM t = dv ∧ t % 3 < A (23 * dv + 5) ∧ A (23 * dv + (6 + t % 3)) = k)
def posC (A c : Int → Int) (k t : Int) : Int := if t < 60 then gt c (deM t) (15 + t % 3) else bgT A t k
/-- all of the kind stand within the bus's window, and apart -/
def GeoK (A : Int → Int) (a dv k : Int) (c : Int → Int) : Prop := (∀ t, InK A a dv k t → 1 ≤ wdT A t k ∧ beM A (bfM a) k ≤ posC A c k t ∧ posC A c k t + wdT A t k ≤ beM A (bfM a) k + wiM A (bfM a) k ∧ 0 ≤ posC A c k t ∧ posC A c k t + wdT A t k ≤ 1024 ∧ 0 < wiM A (bfM a) k) ∧ ∀ t o, InK A a dv k t → InK A a dv k o → t ≠ o → posC A c k t + wdT A t k ≤ posC A c k o ∨ posC A c k o + wdT A o k ≤ posC A c k t
theorem mv_base (hR : RC A c0 w n a dv sp) (hk : 0 ≤ k ∧ k < 2) (hK : KcR A c c0 k) {t : Int} (ht : t ∈ mvL c0 w n a k) : gt c (deM t) (15 + t % 3) = bsT A t := by
  obtain ⟨g, hc, hC, hF, ha, hd, hsp⟩ := id hR
  obtain ⟨⟨t0, t1, ti, tb⟩, t6⟩ := (mem_mvL hR hk).mp ht
  have h2 := ti.2
  rw [if_pos t6] at h2
  rw [hK.2 t t0 t6 ti.1 (by omega)]
  have := (rec_now hc g hk t0 t1 ti).2
  unfold bsC bgT at this
  rw [if_pos t6, if_pos t6] at this
  exact this
theorem set_kind (hR : RC A c0 w n a dv sp) (hk : 0 ≤ k ∧ k < 2) (hK : KcR A c c0 k) {nm len : Int} {τM R W W' V' : Int → Int} (hτ : mvL c0 w n a k = (rgL 0 nm.toNat).map τM) (hn : 0 ≤ nm) (hch : ChR R len nm) (hX : RowX A c0 w n a k dv nm len τM R L W W' V') : (∀ b : Int, 0 ≤ b → b < A (23 * dv + 5) → A (23 * dv + (6 + b)) = k → gt (stS L dv c).2 dv (15 + b) = W' b) ∧ (∀ i : Int, 0 ≤ i → i < len → gt (stS L dv c).2 (deM (τM (R i))) (15 + τM (R i) % 3) = V' i) ∧ (∀ t : Int, 0 ≤ t → t < 60 → t ∉ unL c0 dv k len τM R → gt (stS L dv c).2 (deM t) (15 + t % 3) = gt c (deM t) (15 + t % 3)) ∧ (∀ e f : Int, f < 15 ∨ 17 < f → gt (stS L dv c).2 e f = gt c e f) ∧ (stS L dv c).1 = smL (fun i => if V' i ≠ bsT A (τM (R i)) then 1 else 0) (rgL 0 len.toNat) ∧ GeoK A a dv k (stS L dv c).2 ∧ unM A dv k + smL (fun t => wdT A t k) (reT A (bfM a) k) ≤ wiM A (bfM a) k := by
  obtain ⟨g, hc, hC, hF, ha, hd, hsp⟩ := id hR
  have hr := th_rg hd.1.1
  have h5 := MG_many g.1.1 hr
  have hw := bw_now g ha hk
  have hwb := wbg_bd hw
  have hbg := wbg_nn hw
  obtain ⟨τ, N, n1, n2, n3, x4, x5, x6, x7, x8, x9⟩ := hX
  have hl := hch.1
  have hcases : ∀ t, t ∈ unL c0 dv k len τM R → t ∈ apsL c0 dv k ∨ t ∈ mvL c0 w n a k := fun t ht => by
    unfold unL at ht
    rcases List.mem_append.mp ht with h | h
    · exact Or.inl h
    · obtain ⟨j, hj, rfl⟩ := List.mem_map.mp h
      have hj := (mem_rgL _ _ _).mp hj
      exact Or.inr (mem_cho hτ hch hj.1 (by omega))
  have hin : ∀ j : Int, 0 ≤ j → j < N → τ j ∈ unL c0 dv k len τM R := fun j j0 j1 => (n3 _).mp (List.mem_map.mpr ⟨j, (mem_rgL _ _ _).mpr ⟨j0, by omega⟩, rfl⟩)
  have hidx : ∀ t, t ∈ unL c0 dv k len τM R → ∃ j : Int, 0 ≤ j ∧ j < N ∧ t = τ j := fun t ht => by
    obtain ⟨j, hj, h⟩ := List.mem_map.mp ((n3 t).mpr ht)
    have hj := (mem_rgL _ _ _).mp hj
    exact ⟨j, hj.1, by omega, h.symm⟩
  have h60 : ∀ j : Int, 0 ≤ j → j < N → 0 ≤ τ j ∧ τ j < 60 := fun j j0 j1 => (un_rec hR hk (hcases _ (hin j j0 j1))).1
  have hinj : ∀ i j : Int, 0 ≤ i → i < j → j < N → τ i ≠ τ j := fun i j i0 ij j1 q => by
    have := pw_idx _ _ n2 i j i0 ij (by omega)
    rw [q] at this
    exact bef_asym this this
  have hdmv : ∀ t, t ∈ mvL c0 w n a k → deM t ≠ dv := fun t ht q => by
    obtain ⟨⟨t0, t1, ⟨to, ti⟩, tb⟩, t6⟩ := (mem_mvL hR hk).mp ht
    exact hd.2 (q ▸ to)
  obtain ⟨s1, s2, s3⟩ := st_sp (L := L) (dv := dv) (τ := τ) (N := N) x6 h60 hinj N.toNat 0 (0, c) (Int.le_refl _) (by omega)
  have es : stS L dv c = lp (stf L dv) N.toNat 0 (0, c) := by
    unfold stS
    rw [x5, show min N 27 = N by omega]
  rw [← es] at s1 s2 s3
  dsimp only at s2 s3
  generalize stS L dv c = C at *
  have hval : ∀ b : Int, 0 ≤ b → b < A (23 * dv + 5) → A (23 * dv + (6 + b)) = k → gt C.2 dv (15 + b) = W' b := fun b b0 b1 b2 => by
    obtain ⟨j, j0, j1, hj⟩ := hidx (3 * dv + b) ((mem_unL hR).mpr (Or.inl ⟨b, b0, b1, b2, rfl⟩))
    obtain ⟨d1, d2, d3, d4⟩ := de_ap hr.1 hr.2 b0 (show b < 3 by omega)
    have h1 := s1 j j0 j1
    have h2 := x7 j j0 j1 (by rw [← hj]; exact d1)
    rw [← hj] at h1 h2
    rw [d1, d3] at h1
    rw [h1, ← h2, show 3 * dv + b - 3 * dv = b by omega]
  have hvalV : ∀ i : Int, 0 ≤ i → i < len → gt C.2 (deM (τM (R i))) (15 + τM (R i) % 3) = V' i := fun i i0 i1 => by
    obtain ⟨j, j0, j1, hj⟩ := hidx (τM (R i)) ((mem_unL hR).mpr (Or.inr ⟨i, i0, i1, rfl⟩))
    rw [hj, s1 j j0 j1, x8 i j i0 i1 j0 j1 hj]
  have hkeep : ∀ t : Int, 0 ≤ t → t < 60 → t ∉ unL c0 dv k len τM R → gt C.2 (deM t) (15 + t % 3) = gt c (deM t) (15 + t % 3) := fun t t0 t1 ht => s2 _ _ (fun j j0 j1 q => by
    have hj := h60 j j0 j1
    have d1 : deM t = t / 3 := if_pos t1
    have d2 : deM (τ j) = τ j / 3 := if_pos hj.2
    have : t = τ j := by omega
    exact ht (this ▸ hin j j0 j1))
  have nd2 : (unL c0 dv k len τM R).Nodup := by
    unfold unL
    refine List.pairwise_append.mpr ⟨pw_nodup (pw_apsL (A := A) hr.1 hr.2 (Cls_HsB hC dv hr.1 hr.2)), pw_of_idx (R := fun x y => x ≠ y) (fun i j i0 ij j1 q => ?_), fun x hx y hy q => ?_⟩
    · have hi := hch.2.1 i i0 (by omega)
      have hj := hch.2.1 j (by omega) (by omega)
      have := τM_inj hR hτ hi.1 hi.2 hj.1 hj.2 q
      have := hch.2.2 i j i0 ij (by omega)
      omega
    · obtain ⟨b, b0, b1, b2, rfl⟩ := (own_rg hR).mp hx
      obtain ⟨j, hj, rfl⟩ := List.mem_map.mp hy
      have hj := (mem_rgL _ _ _).mp hj
      refine hdmv _ (mem_cho hτ hch hj.1 (by omega)) ?_
      rw [← q]
      exact (de_ap hr.1 hr.2 b0 (show b < 3 by omega)).1
  refine ⟨hval, hvalV, hkeep, fun e f hf => s2 e f (fun j j0 j1 q => by
    have := h60 j j0 j1
    omega), ?_, ?_⟩
  · have e1 : smL (fun j => if deM (τ j) ≠ dv ∧ gt c (deM (τ j)) (15 + τ j % 3) ≠ L.2.2.2.2.1 j then 1 else 0) (rgL 0 N.toNat) = smL (fun t => if deM t ≠ dv ∧ gt c (deM t) (15 + t % 3) ≠ gt C.2 (deM t) (15 + t % 3) then 1 else 0) ((rgL 0 N.toNat).map τ) := by
      rw [smL_map]
      refine smL_congr _ (fun j hj => ?_)
      have hj := (mem_rgL _ _ _).mp hj
      rw [s1 j hj.1 (by omega)]
    have nd1 : ((rgL 0 N.toNat).map τ).Nodup := List.Pairwise.imp (fun hxy q => by rw [q] at hxy; exact bef_asym hxy hxy) n2
    rw [s3, e1, smL_uniq _ _ nd1 nd2 n3]
    unfold unL
    rw [smL_app, smL_map]
    have z1 : smL (fun t => if deM t ≠ dv ∧ gt c (deM t) (15 + t % 3) ≠ gt C.2 (deM t) (15 + t % 3) then 1 else 0) (apsL c0 dv k) = 0 := smL_0 _ (fun t ht => by
      obtain ⟨b, b0, b1, b2, rfl⟩ := (own_rg hR).mp ht
      exact if_neg (fun q => q.1 (de_ap hr.1 hr.2 b0 (show b < 3 by omega)).1))
    rw [z1]
    have z2 : smL (fun j => if deM (τM (R j)) ≠ dv ∧ gt c (deM (τM (R j))) (15 + τM (R j) % 3) ≠ gt C.2 (deM (τM (R j))) (15 + τM (R j) % 3) then 1 else 0) (rgL 0 len.toNat) = smL (fun i => if V' i ≠ bsT A (τM (R i)) then 1 else 0) (rgL 0 len.toNat) := smL_congr _ (fun j hj => by
      have hj := (mem_rgL _ _ _).mp hj
      have hm := mem_cho hτ hch hj.1 (show j < len by omega)
      rw [hvalV j hj.1 (by omega), mv_base hR hk hK hm]
      have hdj := hdmv _ hm
      by_cases q : V' j = bsT A (τM (R j))
      · rw [if_neg (fun s => s.2 q.symm), if_neg (fun s => s q)]
      · rw [if_pos ⟨hdj, fun s => q s.symm⟩, if_pos q])
    rw [z2]
    omega
  · -- where all stand
    have hst : ∀ t, t ∈ stL c0 w n a k nm len τM R → ThN A a k t ∧ t ∉ unL c0 dv k len τM R := fun t ht => by
      unfold stL at ht
      rcases List.mem_append.mp ht with h | h
      · have hf := List.mem_filter.mp h
        have hth := (thL_now hc g hF (Cls_HsB hC) hk).mp hf.1
        refine ⟨hth, fun q => ?_⟩
        have h6 := (un_rec hR hk (hcases t q)).1
        have := of_decide_eq_true hf.2
        omega
      · obtain ⟨j, hj, rfl⟩ := List.mem_map.mp h
        obtain ⟨hj1, hj2⟩ := List.mem_filter.mp hj
        have hj1 := (mem_rgL _ _ _).mp hj1
        have hm : τM j ∈ mvL c0 w n a k := by
          rw [hτ]
          exact List.mem_map.mpr ⟨j, (mem_rgL _ _ _).mpr hj1, rfl⟩
        refine ⟨((mem_mvL hR hk).mp hm).1, fun q => ?_⟩
        rcases (mem_unL hR).mp q with ⟨b, b0, b1, b2, hb⟩ | ⟨i, i0, i1, hi⟩
        · refine hdmv _ hm ?_
          rw [hb]
          exact (de_ap hr.1 hr.2 b0 (show b < 3 by omega)).1
        · have hRi := hch.2.1 i i0 i1
          have := τM_inj hR hτ hj1.1 (by omega) hRi.1 hRi.2 hi
          rw [(cho_iff hl).mpr ⟨i, i0, i1, this.symm⟩] at hj2
          exact absurd hj2 (by decide)
    have hcov : ∀ t, InK A a dv k t ↔ t ∈ (rgL 0 N.toNat).map τ ∨ t ∈ stL c0 w n a k nm len τM R := fun t => by
      constructor
      · rintro (h | ⟨h1, h2, h3, h4⟩)
        · by_cases q : t < 60
          · have hm := (mem_mvL hR hk).mpr ⟨h, q⟩
            rw [hτ] at hm
            obtain ⟨j, hj, rfl⟩ := List.mem_map.mp hm
            cases hcj : Cho R len j
            · right
              unfold stL
              exact List.mem_append.mpr (Or.inr (List.mem_map.mpr ⟨j, List.mem_filter.mpr ⟨hj, by rw [hcj]; rfl⟩, rfl⟩))
            · left
              obtain ⟨i, i0, i1, i2⟩ := (cho_iff hl).mp hcj
              exact (n3 _).mpr ((mem_unL hR).mpr (Or.inr ⟨i, i0, i1, by rw [i2]⟩))
          · right
            unfold stL
            exact List.mem_append.mpr (Or.inl (List.mem_filter.mpr ⟨(thL_now hc g hF (Cls_HsB hC) hk).mpr h, by exact decide_eq_true q⟩))
        · left
          have d1 : deM t = t / 3 := if_pos h1.2
          exact (n3 _).mpr ((mem_unL hR).mpr (Or.inl ⟨t % 3, by omega, h3, h4, by omega⟩))
      · rintro (h | h)
        · rcases (mem_unL hR).mp ((n3 t).mp h) with ⟨b, b0, b1, b2, rfl⟩ | ⟨i, i0, i1, rfl⟩
          · obtain ⟨d1, d2, d3, d4⟩ := de_ap hr.1 hr.2 b0 (show b < 3 by omega)
            exact Or.inr ⟨by omega, d1, by rw [d3]; exact b1, by rw [d3]; exact b2⟩
          · exact Or.inl ((mem_mvL hR hk).mp (mem_cho hτ hch i0 i1)).1
        · exact Or.inl (hst t h).1
    have hpos1 : ∀ j : Int, 0 ≤ j → j < N → (L.2.2.2.2.1 j, szT A (τ j)) = (posC A C.2 k (τ j), wdT A (τ j) k) := fun j j0 j1 => by
      have h6 := h60 j j0 j1
      unfold posC wdT
      rw [if_pos h6.2, if_pos h6.2, s1 j j0 j1]
    have hpos2 : ∀ t, t ∈ stL c0 w n a k nm len τM R → prT A k t = (posC A C.2 k t, wdT A t k) := fun t ht => by
      obtain ⟨⟨t0, t1, ti, tb⟩, hnu⟩ := hst t ht
      unfold prT posC
      by_cases q : t < 60
      · rw [if_pos q, hkeep t t0 q hnu, mv_base hR hk hK ((mem_mvL hR hk).mpr ⟨⟨t0, t1, ti, tb⟩, q⟩)]
        unfold bgT
        rw [if_pos q]
      · rw [if_neg q]
    have hg0 : Geo (wbg A (bfM a) k) (wbg A (bfM a) k + wiM A (bfM a) k) ((stL c0 w n a k nm len τM R).map (prT A k)) := by
      have hdv : ∀ t, ThN A a k t → buM A (deM t) = bfM a := fun t ht => (bu_iff g.1.1 (th_rg ht.2.2.1.1.1) (bus_rg ha)).mpr ht.2.2.2
      constructor
      · rw [List.pairwise_map]
        have nd : (stL c0 w n a k nm len τM R).Nodup := by
          unfold stL
          refine List.pairwise_append.mpr ⟨?_, ?_, fun x hx y hy q => ?_⟩
          · exact pw_nodup (List.Pairwise.filter _ (pw_thL (SimW_of hc) (gT_S g.1) hF (Cls_HsB hC)))
          · refine List.pairwise_map.mpr (List.Pairwise.imp_of_mem ?_ (List.Pairwise.filter _ (pw_rgL nm.toNat 0)))
            intro i j hi hj hij q
            have hi := (mem_rgL _ _ _).mp (List.mem_filter.mp hi).1
            have hj := (mem_rgL _ _ _).mp (List.mem_filter.mp hj).1
            have := τM_inj hR hτ hi.1 (by omega) hj.1 (by omega) q
            omega
          · obtain ⟨j, hj, rfl⟩ := List.mem_map.mp hy
            have hj := (mem_rgL _ _ _).mp (List.mem_filter.mp hj).1
            have hm : τM j ∈ mvL c0 w n a k := by
              rw [hτ]
              exact List.mem_map.mpr ⟨j, (mem_rgL _ _ _).mpr hj, rfl⟩
            have h1 := ((mem_mvL hR hk).mp hm).2
            have h2 := of_decide_eq_true (List.mem_filter.mp hx).2
            rw [q] at h2
            exact h2 h1
        refine List.Pairwise.imp_of_mem ?_ nd
        intro t o ht ho hto
        have h1 := (hst t ht).1
        have h2 := (hst o ho).1
        have := g.2.2.2.2.2.2 t o k h1.1 h1.2.1 h2.1 h2.2.1 hto hk.1 hk.2 h1.2.2.1 h2.2.2.1 (by rw [h1.2.2.2, h2.2.2.2])
        exact this
      · intro p hp
        obtain ⟨t, ht, rfl⟩ := List.mem_map.mp hp
        have h1 := (hst t ht).1
        obtain ⟨i1, i2, i3, i4, i5⟩ := g.2.2.2.2.2.1 t k h1.1 h1.2.1 hk.1 hk.2 h1.2.2.1
        have hwd := (th_bd g hk h1).1
        rw [hdv t h1] at i1 i2 i3
        have ew : wbg A (bfM a) k = beM A (bfM a) k := if_neg (show ¬ wiM A (bfM a) k = 0 by omega)
        rw [ew]
        exact ⟨i2, i3, by show (0 : Int) ≤ wdT A t k; omega⟩
    have hsz : ∀ t ∈ (rgL 0 N.toNat).map τ, 0 ≤ szT A t := fun t ht => by
      obtain ⟨m, m1, m2⟩ := (un_rec hR hk (hcases t ((n3 t).mp ht))).2.2.2
      rw [m2]
      have := pow_le8 m m1
      omega
    have hgeo := PlO_geo2 hbg _ _ _ hsz x4 hg0
    rw [zip_idx, List.map_reverse, List.map_map] at hgeo
    have e1 : (rgL 0 N.toNat).map ((fun x : Int × Int => (x.2, szT A x.1)) ∘ fun j => (τ j, L.2.2.2.2.1 j)) = ((rgL 0 N.toNat).map τ).map (fun t => (posC A C.2 k t, wdT A t k)) := by
      rw [List.map_map]
      refine List.map_congr_left (fun j hj => ?_)
      have hj := (mem_rgL _ _ _).mp hj
      exact hpos1 j hj.1 (by omega)
    have e2 : (stL c0 w n a k nm len τM R).map (prT A k) = (stL c0 w n a k nm len τM R).map (fun t => (posC A C.2 k t, wdT A t k)) := List.map_congr_left hpos2
    rw [e1, e2, ← List.map_reverse, ← List.map_append] at hgeo
    have hcov2 : ∀ t, InK A a dv k t ↔ t ∈ ((rgL 0 N.toNat).map τ).reverse ++ stL c0 w n a k nm len τM R := fun t => by
      rw [hcov, List.mem_append, List.mem_reverse]
    have hwd1 : ∀ t, InK A a dv k t → 1 ≤ wdT A t k := fun t ht => by
      rcases (hcov t).mp ht with h | h
      · obtain ⟨m, m1, m2⟩ := (un_rec hR hk (hcases t ((n3 t).mp h))).2.2.2
        obtain ⟨h60', -⟩ := un_rec hR hk (hcases t ((n3 t).mp h))
        unfold wdT
        rw [if_pos h60'.2, m2]
        exact (pow_le8 m m1).1
      · exact (th_bd g hk (hst t h).1).1
    refine ⟨⟨fun t ht => ?_, fun t o ht ho hto => ?_⟩, ?_⟩
    · obtain ⟨g1, g2, g3⟩ := hgeo.2 _ (List.mem_map.mpr ⟨t, (hcov2 t).mp ht, rfl⟩)
      have h1 := hwd1 t ht
      dsimp only at g1 g2
      have hwi : 0 < wiM A (bfM a) k := by omega
      have ew : wbg A (bfM a) k = beM A (bfM a) k := if_neg (show ¬ wiM A (bfM a) k = 0 by omega)
      rw [ew] at g1 g2 hwb
      omega
    · exact pw_any (R := fun t o => posC A C.2 k t + wdT A t k ≤ posC A C.2 k o ∨ posC A C.2 k o + wdT A o k ≤ posC A C.2 k t) (fun x y h => h.symm) _ (List.pairwise_map.mp hgeo.1) t ((hcov2 t).mp ht) o ((hcov2 o).mp ho) hto
    · have h1 := sum_le _ (show wbg A (bfM a) k ≤ wbg A (bfM a) k + wiM A (bfM a) k by omega) hgeo.1 hgeo.2
      rw [smL_map, smL_app] at h1
      have nd1 : ((rgL 0 N.toNat).map τ).reverse.Nodup := List.pairwise_reverse.mpr (List.Pairwise.imp (fun hxy q => by rw [← q] at hxy; exact bef_asym hxy hxy) n2)
      have e3 : smL (fun t => wdT A t k) ((rgL 0 N.toNat).map τ).reverse = smL (fun t => wdT A t k) (unL c0 dv k len τM R) := smL_uniq _ _ nd1 nd2 (fun t => by rw [List.mem_reverse]; exact n3 t)
      have e4 := st_sum hR hk hn hτ hch (fun t => wdT A t k)
      have e5 : smL (fun t => wdT A t k) (unL c0 dv k len τM R) = unM A dv k + smL (fun j => wdT A (τM (R j)) k) (rgL 0 len.toNat) := by
        unfold unL
        rw [smL_app, smL_map, ← un_sm (k := k) g.1.1 hr]
        refine congrArg (· + _) (smL_uniq _ _ (pw_nodup (pw_apsL (A := A) hr.1 hr.2 (Cls_HsB hC dv hr.1 hr.2))) (nodup_apsR g.1.1 hr) (fun t => ?_))
        rw [own_rg hR, mem_apsR g.1.1 hr]
      dsimp only at h1
      omega
end CF
