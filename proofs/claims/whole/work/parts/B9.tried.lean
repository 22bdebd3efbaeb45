/-! LAYING DOWN: the reference's rows tried -/
section BT2
variable {im X Y : zM} {c c' s sp A B w w' T : Int → Int} {e f a b x y d k m n u un st bg en bu v sz ad dv nt : Int} {z z0 : zSS} {p q r : Int → Bool}
/-- the row names things of others, each once, in their order -/
def RowK (A M R : Int → Int) (dv nt : Int) : Prop := (∀ i : Int, 0 ≤ i → i < nt → 0 ≤ M (R i) ∧ M (R i) < 60 ∧ deM (M (R i)) ≠ dv) ∧ ∀ i j : Int, 0 ≤ i → i < j → j < nt → raM A (M (R i)) < raM A (M (R j))
/-- what is still to be laid down, in its order -/
def RemT (A W V M R : Int → Int) (dv k nt : Int) (S : List Int) : Prop := List.Pairwise (bef A dv) S ∧ ∀ t, t ∈ S ↔ (∃ a : Int, 0 ≤ a ∧ a < A (23 * dv + 5) ∧ OwU A W dv k a ∧ t = 3 * dv + a) ∨ (∃ i : Int, 0 ≤ i ∧ i < nt ∧ V i < 0 ∧ t = M (R i))
theorem ix_tried {M R : Int → Int} (hK : RowK A M R dv nt) {i : Int} (i0 : 0 ≤ i) (i1 : i < nt) : ixA A dv (M (R i)) = 3 + raM A (M (R i)) := if_neg (hK.1 i i0 i1).2.2
theorem RowK_inj {M R : Int → Int} (hK : RowK A M R dv nt) {i j : Int} (i0 : 0 ≤ i) (i1 : i < nt) (j0 : 0 ≤ j) (j1 : j < nt) (h : M (R i) = M (R j)) : i = j := by
  rcases (show i < j ∨ i = j ∨ j < i by omega) with q | q | q
  · have := hK.2 i j i0 q j1
    rw [h] at this
    omega
  · exact q
  · have := hK.2 j i j0 q i1
    rw [h] at this
    omega
theorem lt_run {M R : Int → Int} (hM : MG A) (hd : 0 ≤ dv ∧ dv < 20) (hw : BwM A bu k) (hn : 0 ≤ nt) (hK : RowK A M R dv nt) : ∀ (n : Nat) (S : List Int) (T W V : Int → Int) (l : List (Int × Int)), S.length < n → TR T l → (∀ p ∈ l, 1 ≤ p.2) → RemT A W V M R dv k nt S → SzP A S → ((ltI A M R nt dv bu k n (T, W, V)).1 = 0 ∧ PlF (wbg A bu k) (wbg A bu k + wiM A bu k) (szT A) l S) ∨ ((ltI A M R nt dv bu k n (T, W, V)).1 = 1 ∧ ∃ ps, PlO (wbg A bu k) (wbg A bu k + wiM A bu k) (szT A) l S ps ∧ (∀ a, 3 * dv + a ∉ S → (ltI A M R nt dv bu k n (T, W, V)).2.2.1 a = W a) ∧ (∀ i : Int, M (R i) ∉ S → (ltI A M R nt dv bu k n (T, W, V)).2.2.2 i = V i) ∧ (∀ t r, (t, r) ∈ S.zip ps → deM t = dv → (ltI A M R nt dv bu k n (T, W, V)).2.2.1 (t - 3 * dv) = r) ∧ ∀ i r, 0 ≤ i → i < nt → (M (R i), r) ∈ S.zip ps → (ltI A M R nt dv bu k n (T, W, V)).2.2.2 i = r)
  | 0, S, T, W, V, l, hS, _, _, _, _ => by omega
  | n + 1, S, T, W, V, l, hS, hT, hl, hR, hz => by
    have h5 := MG_many hM hd
    have hwn := wbg_nn hw
    simp only [ltI]
    have hno := no_sp (W := W) (k := k) hM hd
    have hnt := nt_sp (A := A) (M := M) (R := R) (V := V) hn
    -- who is first
    have head : ∀ t, t ∈ S → (∀ t' ∈ S, t' ≠ t → bef A dv t t') → ∃ S', S = t :: S' := fun t ht hmin => by
      cases S with
      | nil => exact absurd ht List.not_mem_nil
      | cons y S =>
        by_cases hy : y = t
        · exact ⟨S, by rw [hy]⟩
        · exfalso
          rcases List.mem_cons.mp ht with q | q
          · exact hy q.symm
          · exact bef_asym ((List.pairwise_cons.mp hR.1).1 _ q) (hmin y List.mem_cons_self hy)
    by_cases cE : noM A W dv k < 0 ∧ ntM A M R V nt < 0
    · have hS0 : S = [] := by
        cases S with
        | nil => rfl
        | cons t S =>
          exfalso
          rcases (hR.2 t).mp List.mem_cons_self with ⟨a, a0, a1, a2, -⟩ | ⟨i, i0, i1, i2, -⟩
          · rcases hno with ⟨q1, q2⟩ | ⟨q1, -⟩
            · exact q2 a a0 a1 a2
            · omega
          · rcases hnt with ⟨q1, q2⟩ | ⟨q1, -⟩
            · exact q2 i i0 i1 i2
            · omega
      rw [if_pos cE, hS0]
      exact Or.inr ⟨rfl, [], rfl, fun a _ => rfl, fun i _ => rfl, fun t r htr => absurd htr List.not_mem_nil, fun i r _ _ htr => absurd htr List.not_mem_nil⟩
    · rw [if_neg cE]
      by_cases cO : 0 ≤ noM A W dv k ∧ (ntM A M R V nt < 0 ∨ szT A (M (R (ntM A M R V nt))) ≤ A (23 * dv + (9 + noM A W dv k)))
      · rw [if_pos cO]
        obtain ⟨q1, q2, q3⟩ := hno.resolve_left (fun s => by omega)
        have hin : 3 * dv + noM A W dv k ∈ S := (hR.2 _).mpr (Or.inl ⟨_, q1.1, q1.2, q2, rfl⟩)
        obtain ⟨sz1, sz2⟩ := sz_own (A := A) hd (show 0 ≤ noM A W dv k ∧ noM A W dv k < 3 by omega)
        obtain ⟨S', hS'⟩ := head _ hin (fun t' ht' hne => by
          rcases (hR.2 t').mp ht' with ⟨b, b0, b1, b2, rfl⟩ | ⟨i, i0, i1, i2, rfl⟩
          · obtain ⟨bz1, bz2⟩ := sz_own (A := A) hd (show 0 ≤ b ∧ b < 3 by omega)
            have := q3 b b0 b1 b2 (fun s => hne (by rw [s]))
            unfold bef
            rw [sz1, sz2, bz1, bz2]
            omega
          · have hx := ix_tried hK i0 i1
            have hra : 0 ≤ raM A (M (R i)) := by
              have hk := hK.1 i i0 i1
              have hdr := de_rg ⟨hk.1, show M (R i) < 80 by omega⟩
              have hsl := (hM _ hdr.1 hdr.2).2.2.1
              unfold raM
              split <;> omega
            unfold bef
            rw [sz1, sz2, hx]
            have hle : szT A (M (R i)) ≤ A (23 * dv + (9 + noM A W dv k)) := by
              rcases hnt with ⟨r1, r2⟩ | ⟨r1, r2, r3⟩
              · exact absurd i2 (r2 i i0 i1)
              · have h2 := cO.2.resolve_left (by omega)
                by_cases hi : i = ntM A M R V nt
                · rw [hi]
                  exact h2
                · have := r3 i i0 i1 i2 hi
                  omega
            omega)
        subst hS'
        generalize noM A W dv k = a at *
        obtain ⟨hp1, hp2⟩ := List.pairwise_cons.mp hR.1
        obtain ⟨e, e1, e2⟩ := hz _ List.mem_cons_self
        rw [sz1] at e2
        have hpw := pow_le8 e e1
        have hlo := loW_sp2 (n := e) (sz := A (23 * dv + (9 + a))) (by omega) hT hl (by omega) hw
        rw [e2] at hlo ⊢
        have hcs := LowSp_cases hwn hlo
        have hsz : szT A (3 * dv + a) = 2 ^ e := by rw [sz1, e2]
        generalize loW A T bu k (2 ^ e) (2 ^ e) = r at *
        by_cases c1 : r < 0
        · rw [if_pos c1]
          refine Or.inl ⟨rfl, Or.inl ?_⟩
          rw [hsz, show (-1 : Int) = r by omega]
          exact hlo
        · rw [if_neg c1]
          have hnin : 3 * dv + a ∉ S' := fun hq => bef_asym (hp1 _ hq) (hp1 _ hq)
          have hdv : ∀ b : Int, 0 ≤ b → b < 3 → deM (3 * dv + b) = dv := fun b b0 b1 => (de_ap hd.1 hd.2 b0 b1).1
          have ih := lt_run hM hd hw hn hK n S' (mkT T r (2 ^ e) 1) (ups W a r) V ((r, 2 ^ e) :: l) (by rw [List.length_cons] at hS; omega) (TR_mk hT) (fun p hp => by
            rcases List.mem_cons.mp hp with rfl | hp
            · exact hpw.1
            · exact hl p hp) ⟨hp2, fun t => by
            constructor
            · intro hts
              rcases (hR.2 t).mp (List.mem_cons_of_mem _ hts) with ⟨b, b0, b1, b2, rfl⟩ | h
              · have hne : b ≠ a := fun s => hnin (s ▸ hts)
                exact Or.inl ⟨b, b0, b1, ⟨b2.1, by rw [ups_ne _ _ hne]; exact b2.2⟩, rfl⟩
              · exact Or.inr h
            · rintro (⟨b, b0, b1, b2, rfl⟩ | ⟨i, i0, i1, i2, rfl⟩)
              · have hne : b ≠ a := fun s => by
                  have := b2.2
                  rw [s, ups_at] at this
                  omega
                have := (hR.2 (3 * dv + b)).mpr (Or.inl ⟨b, b0, b1, ⟨b2.1, by have := b2.2; rw [ups_ne _ _ hne] at this; exact this⟩, rfl⟩)
                rcases List.mem_cons.mp this with h | h
                · omega
                · exact h
              · have := (hR.2 (M (R i))).mpr (Or.inr ⟨i, i0, i1, i2, rfl⟩)
                rcases List.mem_cons.mp this with h | h
                · exfalso
                  have := (hK.1 i i0 i1).2.2
                  rw [h, hdv a q1.1 (by omega)] at this
                  exact this rfl
                · exact h⟩ (fun t ht => hz t (List.mem_cons_of_mem _ ht))
          rcases ih with ⟨i1, i2⟩ | ⟨i1, ps, i2, i3, i4, i5, i6⟩
          · exact Or.inl ⟨i1, Or.inr ⟨r, by omega, by rw [hsz]; exact hlo, by rw [hsz]; exact i2⟩⟩
          · refine Or.inr ⟨i1, r :: ps, ⟨⟨by omega, by rw [hsz]; exact hlo⟩, by rw [hsz]; exact i2⟩, fun b hb => ?_, fun i hi => ?_, fun t r' htr hdt => ?_, fun i r' i0 i1' htr => ?_⟩
            · rw [i3 b (fun hq => hb (List.mem_cons_of_mem _ hq)), ups_ne _ _ (fun s => hb (by rw [s]; exact List.mem_cons_self))]
            · exact i4 i (fun hq => hi (List.mem_cons_of_mem _ hq))
            · rw [List.zip_cons_cons] at htr
              rcases List.mem_cons.mp htr with h | h
              · rw [Prod.mk.injEq] at h
                rw [h.1, h.2, show 3 * dv + a - 3 * dv = a by omega, i3 a hnin, ups_at]
              · exact i5 t r' h hdt
            · rw [List.zip_cons_cons] at htr
              rcases List.mem_cons.mp htr with h | h
              · exfalso
                rw [Prod.mk.injEq] at h
                have := (hK.1 i i0 i1').2.2
                rw [h.1, hdv a q1.1 (by omega)] at this
                exact this rfl
              · exact i6 i r' i0 i1' h
      · rw [if_neg cO]
        have hnt0 : 0 ≤ ntM A M R V nt := by
          rcases hnt with ⟨r1, -⟩ | ⟨r1, -⟩
          · rcases hno with ⟨s1, -⟩ | ⟨s1, -⟩
            · omega
            · exact absurd ⟨s1.1, Or.inl (by omega)⟩ cO
          · exact r1.1
        obtain ⟨q1, q2, q3⟩ := hnt.resolve_left (fun s => by omega)
        have hin : M (R (ntM A M R V nt)) ∈ S := (hR.2 _).mpr (Or.inr ⟨_, q1.1, q1.2, q2, rfl⟩)
        obtain ⟨S', hS'⟩ := head _ hin (fun t' ht' hne => by
          rcases (hR.2 t').mp ht' with ⟨b, b0, b1, b2, rfl⟩ | ⟨i, i0, i1, i2, rfl⟩
          · obtain ⟨bz1, bz2⟩ := sz_own (A := A) hd (show 0 ≤ b ∧ b < 3 by omega)
            rcases hno with ⟨s1, s2⟩ | ⟨s1, s2, s3⟩
            · exact absurd b2 (s2 b b0 b1)
            · have hlt : A (23 * dv + (9 + noM A W dv k)) < szT A (M (R (ntM A M R V nt))) := by
                have : ¬ (ntM A M R V nt < 0 ∨ szT A (M (R (ntM A M R V nt))) ≤ A (23 * dv + (9 + noM A W dv k))) := fun s => cO ⟨s1.1, s⟩
                omega
              unfold bef
              rw [bz1]
              by_cases hb : b = noM A W dv k
              · rw [hb]
                omega
              · have := s3 b b0 b1 b2 hb
                omega
          · have hx := ix_tried hK i0 i1
            have hx2 := ix_tried hK q1.1 q1.2
            have hne' : i ≠ ntM A M R V nt := fun s => hne (by rw [s])
            have := q3 i i0 i1 i2 hne'
            unfold bef
            rw [hx, hx2]
            rcases this with h | h
            · exact Or.inl h
            · have := hK.2 _ i q1.1 h.2 i1
              omega)
        subst hS'
        generalize ntM A M R V nt = j at *
        have hkj := hK.1 j q1.1 q1.2
        obtain ⟨hp1, hp2⟩ := List.pairwise_cons.mp hR.1
        obtain ⟨e, e1, e2⟩ := hz _ List.mem_cons_self
        have hpw := pow_le8 e e1
        have hlo := loW_sp2 (n := e) (sz := szT A (M (R j))) (by omega) hT hl (by omega) hw
        rw [e2] at hlo ⊢
        have hcs := LowSp_cases hwn hlo
        generalize loW A T bu k (2 ^ e) (2 ^ e) = r at *
        by_cases c1 : r < 0
        · rw [if_pos c1]
          refine Or.inl ⟨rfl, Or.inl ?_⟩
          rw [e2, show (-1 : Int) = r by omega]
          exact hlo
        · rw [if_neg c1]
          have hnin : M (R j) ∉ S' := fun hq => bef_asym (hp1 _ hq) (hp1 _ hq)
          have hdv : ∀ b : Int, 0 ≤ b → b < 3 → deM (3 * dv + b) = dv := fun b b0 b1 => (de_ap hd.1 hd.2 b0 b1).1
          have ih := lt_run hM hd hw hn hK n S' (mkT T r (2 ^ e) 1) W (ups V j r) ((r, 2 ^ e) :: l) (by rw [List.length_cons] at hS; omega) (TR_mk hT) (fun p hp => by
            rcases List.mem_cons.mp hp with rfl | hp
            · exact hpw.1
            · exact hl p hp) ⟨hp2, fun t => by
            constructor
            · intro hts
              rcases (hR.2 t).mp (List.mem_cons_of_mem _ hts) with h | ⟨i, i0, i1, i2, rfl⟩
              · exact Or.inl h
              · have hne : i ≠ j := fun s => hnin (s ▸ hts)
                exact Or.inr ⟨i, i0, i1, by rw [ups_ne _ _ hne]; exact i2, rfl⟩
            · rintro (⟨b, b0, b1, b2, rfl⟩ | ⟨i, i0, i1, i2, rfl⟩)
              · have := (hR.2 (3 * dv + b)).mpr (Or.inl ⟨b, b0, b1, b2, rfl⟩)
                rcases List.mem_cons.mp this with h | h
                · exfalso
                  have := hkj.2.2
                  rw [← h, hdv b b0 (by omega)] at this
                  exact this rfl
                · exact h
              · have hne : i ≠ j := fun s => by
                  rw [s, ups_at] at i2
                  omega
                rw [ups_ne _ _ hne] at i2
                have := (hR.2 (M (R i))).mpr (Or.inr ⟨i, i0, i1, i2, rfl⟩)
                rcases List.mem_cons.mp this with h | h
                · exact absurd (RowK_inj hK i0 i1 q1.1 q1.2 h) hne
                · exact h⟩ (fun t ht => hz t (List.mem_cons_of_mem _ ht))
          rcases ih with ⟨i1, i2⟩ | ⟨i1, ps, i2, i3, i4, i5, i6⟩
          · exact Or.inl ⟨i1, Or.inr ⟨r, by omega, by rw [e2]; exact hlo, by rw [e2]; exact i2⟩⟩
          · refine Or.inr ⟨i1, r :: ps, ⟨⟨by omega, by rw [e2]; exact hlo⟩, by rw [e2]; exact i2⟩, fun b hb => ?_, fun i hi => ?_, fun t r' htr hdt => ?_, fun i r' i0 i1' htr => ?_⟩
            · exact i3 b (fun hq => hb (List.mem_cons_of_mem _ hq))
            · rw [i4 i (fun hq => hi (List.mem_cons_of_mem _ hq)), ups_ne _ _ (fun s => hi (by rw [s]; exact List.mem_cons_self))]
            · rw [List.zip_cons_cons] at htr
              rcases List.mem_cons.mp htr with h | h
              · exfalso
                rw [Prod.mk.injEq] at h
                exact hkj.2.2 (by rw [← h.1]; exact hdt)
              · exact i5 t r' h hdt
            · rw [List.zip_cons_cons] at htr
              rcases List.mem_cons.mp htr with h | h
              · rw [Prod.mk.injEq] at h
                have hij := RowK_inj hK i0 i1' q1.1 q1.2 h.1
                rw [h.2, hij, i4 j hnin, ups_at]
              · exact i6 i r' i0 i1' h
end BT2
