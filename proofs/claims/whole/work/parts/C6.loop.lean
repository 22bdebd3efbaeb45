/-! BOTH KINDS SEATED: class and reference -/
section CG
variable {im X Y : zM} {c c' c0 s sp A B w w' T : Int → Int} {e f a b x y d k m n u un st bg en bu v sz ad dv nt i : Int} {z z0 M L : zSS} {p q r : Int → Bool}
theorem lp_snoc {S : Type} {f : Int → S → S} : ∀ (n : Nat) (i : Int) (s : S), lp f (n + 1) i s = f (i + n) (lp f n i s)
  | 0, i, s => by
    show f i s = f (i + 0) s
    rw [Int.add_zero]
  | n + 1, i, s => by
    have h := lp_snoc (f := f) n (i + 1) (f i s)
    simp only [lp] at h ⊢
    rw [h]
    congr 1
    omega
/-- the reference's table once what was moved is noted -/
def Amv (A : Int → Int) (y : zMv) : Int → Int := lp (fun i A => ups A (23 * (y.1 i / 3) + (12 + y.1 i % 3)) (y.2.1 i)) y.2.2.toNat 0 A
theorem Amv_push {r : zRb} {y : zMv} (h : 0 ≤ y.2.2) : Amv A (mvF r i y) = ups (Amv A y) (23 * (r.2.2.1 (r.2.2.2.1 i) / 3) + (12 + r.2.2.1 (r.2.2.2.1 i) % 3)) (r.2.2.2.2.1 i) := by
  unfold Amv mvF
  dsimp only
  rw [show (y.2.2 + 1).toNat = y.2.2.toNat + 1 by omega, lp_snoc, show (0 : Int) + (y.2.2.toNat : Int) = y.2.2 by omega, ups_at, ups_at]
  rw [lp_congr (g := fun i A => ups A (23 * (y.1 i / 3) + (12 + y.1 i % 3)) (y.2.1 i)) y.2.2.toNat 0 A (fun j j0 j1 s => by
    rw [ups_ne _ _ (show j ≠ y.2.2 by omega), ups_ne _ _ (show j ≠ y.2.2 by omega)])]
def clT (t : Int) : Int := 23 * (t / 3) + (12 + t % 3)
theorem Amv_run {r : zRb} {τ : Int → Int} {len : Int} (hτ : ∀ i : Int, 0 ≤ i → i < len → r.2.2.1 (r.2.2.2.1 i) = τ i) (h0 : ∀ i : Int, 0 ≤ i → i < len → 0 ≤ τ i) (hinj : ∀ i j : Int, 0 ≤ i → i < j → j < len → τ i ≠ τ j) : ∀ (m : Nat) (i : Int) (y : zMv), 0 ≤ i → i + m = len → 0 ≤ y.2.2 → 0 ≤ (lp (mvF r) m i y).2.2 ∧ (∀ j : Int, i ≤ j → j < len → Amv A (lp (mvF r) m i y) (clT (τ j)) = r.2.2.2.2.1 j) ∧ ∀ x : Int, (∀ j : Int, i ≤ j → j < len → x ≠ clT (τ j)) → Amv A (lp (mvF r) m i y) x = Amv A y x
  | 0, i, y, i0, i1, hy => ⟨hy, fun j j0 j1 => by omega, fun _ _ => rfl⟩
  | m + 1, i, y, i0, i1, hy => by
    simp only [lp]
    have hp : Amv A (mvF r i y) = ups (Amv A y) (clT (τ i)) (r.2.2.2.2.1 i) := by
      rw [Amv_push (A := A) (r := r) (i := i) hy, hτ i i0 (by omega)]
      rfl
    obtain ⟨g0, g1, g2⟩ := Amv_run hτ h0 hinj m (i + 1) (mvF r i y) (by omega) (by omega) (by unfold mvF; dsimp only; omega)
    refine ⟨g0, fun j j0 j1 => ?_, fun x hx => ?_⟩
    · by_cases q : j = i
      · rw [q, g2 _ (fun j' a b => ?_), hp]
        · exact ups_at ..
        · have := hinj i j' i0 (by omega) b
          have := h0 i i0 (by omega)
          have := h0 j' (by omega) b
          unfold clT
          omega
      · exact g1 j (by omega) j1
    · rw [g2 x (fun j a b => hx j (by omega) b), hp, ups_ne _ _ (hx i (Int.le_refl _) (by omega))]
theorem GeoK_congr (h : GeoK A a dv k c) (hc : ∀ t, InK A a dv k t → t < 60 → gt c' (deM t) (15 + t % 3) = gt c (deM t) (15 + t % 3)) : GeoK A a dv k c' := by
  have e : ∀ t, InK A a dv k t → posC A c' k t = posC A c k t := fun t ht => by
    unfold posC
    split
    · rename_i q
      exact hc t ht q
    · rfl
  refine ⟨fun t ht => ?_, fun t o ht ho hto => ?_⟩
  · rw [e t ht]
    exact h.1 t ht
  · rw [e t ht, e o ho]
    exact h.2 t o ht ho hto
/-- where class and reference stand between the kinds -/
def SeR (A c0 : Int → Int) (a dv k : Int) (c W Am : Int → Int) : Prop := KcR A c c0 k ∧ (∀ b : Int, 0 ≤ b → b < A (23 * dv + 5) → A (23 * dv + (6 + b)) < k → gt c dv (15 + b) = W b) ∧ (∀ t : Int, 0 ≤ t → t < 60 → thM A (deM t) → t % 3 < A (23 * deM t + 5) → deM t ≠ dv → gt c (deM t) (15 + t % 3) = Am (clT t)) ∧ (∀ j : Int, (∀ t : Int, 0 ≤ t → t < 60 → onM A (deM t) → t % 3 < A (23 * deM t + 5) → A (23 * deM t + 2) = a → j ≠ clT t) → Am j = A j) ∧ (∀ t : Int, 0 ≤ t → t < 60 → (∀ k' : Int, 0 ≤ k' → k' < 2 → ¬ InK A a dv k' t) → gt c (deM t) (15 + t % 3) = gt c0 (deM t) (15 + t % 3)) ∧ ∀ k' : Int, 0 ≤ k' → k' < k → GeoK A a dv k' c
theorem in_kind (hR : RC A c0 w n a dv sp) {t : Int} (ht : InK A a dv k t) (h6 : t < 60) : A (23 * deM t + (6 + t % 3)) = k := by
  rcases ht with ⟨-, -, ti, -⟩ | ⟨-, h1, -, h2⟩
  · have := ti.2
    rw [if_pos h6] at this
    exact this.2
  · rw [h1]
    exact h2
theorem unL_in (hR : RC A c0 w n a dv sp) (hk : 0 ≤ k ∧ k < 2) {nm len t : Int} {τM R : Int → Int} (hτ : mvL c0 w n a k = (rgL 0 nm.toNat).map τM) (hch : ChR R len nm) (ht : t ∈ unL c0 dv k len τM R) : InK A a dv k t ∧ 0 ≤ t ∧ t < 60 := by
  obtain ⟨g, hc, hC, hF, ha, hd, hsp⟩ := id hR
  have hr := th_rg hd.1.1
  have h5 := MG_many g.1.1 hr
  rcases (mem_unL hR).mp ht with ⟨b, b0, b1, b2, rfl⟩ | ⟨i, i0, i1, rfl⟩
  · obtain ⟨d1, d2, d3, d4⟩ := de_ap hr.1 hr.2 b0 (show b < 3 by omega)
    exact ⟨Or.inr ⟨by omega, d1, by rw [d3]; exact b1, by rw [d3]; exact b2⟩, by omega, d4⟩
  · obtain ⟨h1, h2⟩ := (mem_mvL hR hk).mp (mem_cho hτ hch i0 i1)
    exact ⟨Or.inl h1, h1.1, h2⟩
theorem clT_inj {t o : Int} (t0 : 0 ≤ t) (o0 : 0 ≤ o) (h : clT t = clT o) : t = o := by
  unfold clT at h
  omega
theorem se_step (hR : RC A c0 w n a dv sp) (hk : 0 ≤ k ∧ k < 2) {nm len : Int} {τM R W W' V' Am Am' : Int → Int} (h : SeR A c0 a dv k c W Am) (hτ : mvL c0 w n a k = (rgL 0 nm.toNat).map τM) (hn : 0 ≤ nm) (hch : ChR R len nm) (hX : RowX A c0 w n a k dv nm len τM R L W W' V') (hA1 : ∀ i : Int, 0 ≤ i → i < len → Am' (clT (τM (R i))) = V' i) (hA2 : ∀ j : Int, (∀ i : Int, 0 ≤ i → i < len → j ≠ clT (τM (R i))) → Am' j = Am j) : SeR A c0 a dv (k + 1) (stS L dv c).2 W' Am' := by
  obtain ⟨g, hc, hC, hF, ha, hd, hsp⟩ := id hR
  have hr := th_rg hd.1.1
  have h5 := MG_many g.1.1 hr
  obtain ⟨h1, h2, h3, h4, h5', h6⟩ := h
  obtain ⟨s1, s2, s3, s4, s5, s6, s7⟩ := set_kind hR hk h1 hτ hn hch hX
  obtain ⟨τ, N, -, -, -, -, -, -, -, -, x9⟩ := hX
  generalize (stS L dv c).2 = C at *
  have hout : ∀ t : Int, 0 ≤ t → t < 60 → A (23 * deM t + (6 + t % 3)) ≠ k → gt C (deM t) (15 + t % 3) = gt c (deM t) (15 + t % 3) := fun t t0 t1 hk' => s3 t t0 t1 (fun q => hk' (in_kind hR (unL_in hR hk hτ hch q).1 t1))
  refine ⟨⟨fun e f hf => (s4 e f hf).trans (h1.1 e f hf), fun t t0 t1 ho ht => ?_⟩, fun b b0 b1 b2 => ?_, fun t t0 t1 ht hb hdt => ?_, fun j hj => ?_, fun t t0 t1 ht => ?_, fun k' k0 k1 => ?_⟩
  · rw [hout t t0 t1 (by omega)]
    exact h1.2 t t0 t1 ho (by omega)
  · by_cases q : A (23 * dv + (6 + b)) = k
    · exact s1 b b0 b1 q
    · obtain ⟨d1, d2, d3, d4⟩ := de_ap hr.1 hr.2 b0 (show b < 3 by omega)
      have := hout (3 * dv + b) (by omega) d4 (by rw [d1, d3]; exact q)
      rw [d1, d3] at this
      rw [this, h2 b b0 b1 (by omega), x9 b b0 (by omega) (fun s => q s.2)]
  · by_cases q : t ∈ unL c0 dv k len τM R
    · rcases (mem_unL hR).mp q with ⟨b, b0, b1, b2, hb'⟩ | ⟨i, i0, i1, hi⟩
      · exact absurd (by rw [hb']; exact (de_ap hr.1 hr.2 b0 (show b < 3 by omega)).1) hdt
      · rw [hi, s2 i i0 i1, hA1 i i0 i1]
    · rw [s3 t t0 t1 q, h3 t t0 t1 ht hb hdt, hA2 _ (fun i i0 i1 hcl => ?_)]
      have hm := ((mem_mvL hR hk).mp (mem_cho hτ hch i0 i1)).1.1
      exact q ((mem_unL hR).mpr (Or.inr ⟨i, i0, i1, clT_inj t0 hm hcl⟩))
  · rw [hA2 j (fun i i0 i1 => ?_)]
    · exact h4 j hj
    · obtain ⟨⟨t0, -, ti, tb⟩, t6⟩ := (mem_mvL hR hk).mp (mem_cho hτ hch i0 i1)
      have h2 := ti.2
      rw [if_pos t6] at h2
      exact hj _ t0 t6 ti.1 h2.1 tb
  · rw [s3 t t0 t1 (fun q => ht k hk.1 hk.2 (unL_in hR hk hτ hch q).1)]
    exact h5' t t0 t1 ht
  · by_cases q : k' = k
    · rw [q]
      exact s6
    · refine GeoK_congr (h6 k' k0 (by omega)) (fun t ht t6 => ?_)
      have hkt := in_kind hR ht t6
      have t0 : 0 ≤ t := by
        rcases ht with h | h
        · exact h.1
        · exact h.1.1
      exact hout t t0 t6 (by omega)
theorem un0_no (hR : RC A c0 w n a dv sp) (hu : unM A dv k = 0) {b : Int} (b0 : 0 ≤ b) (b1 : b < A (23 * dv + 5)) : A (23 * dv + (6 + b)) ≠ k := fun q => by
  obtain ⟨g, hc, hC, hF, ha, hd, hsp⟩ := id hR
  have hr := th_rg hd.1.1
  have h5 := MG_many g.1.1 hr
  have hpos : ∀ t ∈ apsR A dv k, 1 ≤ wdT A t k := fun t ht => by
    obtain ⟨b', b0', b1', b2', rfl⟩ := (mem_apsR g.1.1 hr).mp ht
    obtain ⟨d1, d2, d3, d4⟩ := de_ap hr.1 hr.2 b0' (show b' < 3 by omega)
    unfold wdT
    rw [if_pos d4, (sz_own (A := A) hr (show 0 ≤ b' ∧ b' < 3 by omega)).1]
    obtain ⟨m, m1, m2⟩ := g.1.2.2.2.2.2.2.2.1 dv b' hd.1.1 b0' b1'
    rw [m2]
    exact (pow_le8 m m1).1
  have hs := un_sm (k := k) g.1.1 hr
  have hin : 3 * dv + b ∈ apsR A dv k := (mem_apsR g.1.1 hr).mpr ⟨b, b0, b1, q, rfl⟩
  have h1 : ∀ l : List Int, (∀ t ∈ l, 1 ≤ wdT A t k) → l ≠ [] → 1 ≤ smL (fun t => wdT A t k) l := fun l hl hne => by
    cases l with
    | nil => exact absurd rfl hne
    | cons t l =>
      have a1 := hl t List.mem_cons_self
      have a2 := smL_nn (g := fun t => wdT A t k) l (fun x hx => by
        have := hl x (List.mem_cons_of_mem _ hx)
        omega)
      simp only [smL]
      omega
  have := h1 _ hpos (fun q => by rw [q] at hin; exact absurd hin List.not_mem_nil)
  omega
theorem se_skip (hR : RC A c0 w n a dv sp) (hk : 0 ≤ k ∧ k < 2) {W Am : Int → Int} (h : SeR A c0 a dv k c W Am) (hu : unM A dv k = 0) : SeR A c0 a dv (k + 1) c W Am := by
  obtain ⟨g, hc, hC, hF, ha, hd, hsp⟩ := id hR
  have hr := th_rg hd.1.1
  obtain ⟨h1, h2, h3, h4, h5', h6⟩ := h
  refine ⟨KcR_mono h1 (by omega), fun b b0 b1 b2 => ?_, h3, h4, h5', fun k' k0 k1 => ?_⟩
  · have := un0_no hR hu b0 b1
    exact h2 b b0 b1 (by omega)
  · by_cases q : k' = k
    · rw [q]
      have hown : ∀ t, InK A a dv k t → ThN A a k t := fun t ht => by
        rcases ht with h | ⟨t1, t2, t3, t4⟩
        · exact h
        · have d1 : deM t = t / 3 := if_pos t1.2
          exact absurd t4 (un0_no hR hu (by omega) t3)
      have hpos : ∀ t, InK A a dv k t → posC A c k t = bgT A t k := fun t ht => by
        have hT := hown t ht
        unfold posC
        split
        · rename_i t6
          rw [mv_base hR hk h1 ((mem_mvL hR hk).mpr ⟨hT, t6⟩)]
          unfold bgT
          rw [if_pos t6]
        · rfl
      refine ⟨fun t ht => ?_, fun t o ht ho hto => ?_⟩
      · have hT := hown t ht
        obtain ⟨i1, i2, i3, i4, i5⟩ := g.2.2.2.2.2.1 t k hT.1 hT.2.1 hk.1 hk.2 hT.2.2.1
        have hb := (bu_iff g.1.1 (th_rg hT.2.2.1.1.1) (bus_rg ha)).mpr hT.2.2.2
        rw [hb] at i1 i2 i3
        rw [hpos t ht]
        exact ⟨(th_bd g hk hT).1, i2, i3, i4, i5, i1⟩
      · have h1' := hown t ht
        have h2' := hown o ho
        rw [hpos t ht, hpos o ho]
        exact g.2.2.2.2.2.2 t o k h1'.1 h1'.2.1 h2'.1 h2'.2.1 hto hk.1 hk.2 h1'.2.2.1 h2'.2.2.1 (by rw [h1'.2.2.2, h2'.2.2.2])
    · exact h6 k' k0 (by omega)
theorem se_0 (hR : RC A c0 w n a dv sp) {W : Int → Int} : SeR A c0 a dv 0 c0 W A := by
  obtain ⟨g, hc, hC, hF, ha, hd, hsp⟩ := id hR
  refine ⟨KcR_refl, fun b b0 b1 b2 => ?_, fun t t0 t1 ht hb hdt => ?_, fun j _ => rfl, fun _ _ _ _ => rfl, fun k' k0 k1 => by omega⟩
  · have := (g.1.1 dv (th_rg hd.1.1).1 (th_rg hd.1.1).2)
    have h5 := MG_many g.1.1 (th_rg hd.1.1)
    have := (this.2.2.2.2.2.1 b b0 (by omega)).1
    omega
  · have d1 : deM t = t / 3 := if_pos t1
    have := ((sc_d hc ht).2.2.2.2.2.2.2.1 (t % 3) (by omega) hb).2.2
    rw [this]
    unfold clT
    rw [d1]
end CG
