/-! LAYING DOWN one after another, each at the lowest place: the reference's tries -/
section BS
variable {im X Y : zM} {c c' s sp A B w w' T : Int → Int} {e f a b x y d k m n u un st bg en bu v sz ad dv : Int} {z z0 : zSS} {p q r : Int → Bool}
/-- all find room, there -/
def PlO (bg en : Int) (h : Int → Int) : List (Int × Int) → List Int → List Int → Prop
  | _, [], ps => ps = []
  | _, _ :: _, [] => False
  | l, t :: S, r :: ps => (0 ≤ r ∧ LowSp (FreL l (h t)) bg en (h t) (h t) r) ∧ PlO bg en h ((r, h t) :: l) S ps
/-- one finds none -/
def PlF (bg en : Int) (h : Int → Int) : List (Int × Int) → List Int → Prop
  | _, [] => False
  | l, t :: S => LowSp (FreL l (h t)) bg en (h t) (h t) (-1) ∨ ∃ r, 0 ≤ r ∧ LowSp (FreL l (h t)) bg en (h t) (h t) r ∧ PlF bg en h ((r, h t) :: l) S
/-- two lists of stretches that leave the same free -/
def FrE (l l' : List (Int × Int)) : Prop := ∀ sz u : Int, FreL l sz u ↔ FreL l' sz u
theorem FrE_cons {l l' : List (Int × Int)} {q : Int × Int} (h : FrE l l') : FrE (q :: l) (q :: l') := fun sz u => by
  have h1 := h sz u
  unfold FreL at *
  simp only [List.forall_mem_cons]
  rw [h1]
theorem PlO_uniq {h : Int → Int} (hb : 0 ≤ bg) : ∀ (S : List Int) (l l' : List (Int × Int)) (ps ps' : List Int), FrE l l' → PlO bg en h l S ps → PlO bg en h l' S ps' → ps = ps'
  | [], l, l', ps, ps', _, h1, h2 => by
    have h1' : ps = [] := by cases ps <;> exact h1
    have h2' : ps' = [] := by cases ps' <;> exact h2
    rw [h1', h2']
  | t :: S, l, l', [], ps', _, h1, _ => absurd h1 id
  | t :: S, l, l', r :: ps, [], _, _, h2 => absurd h2 id
  | t :: S, l, l', r :: ps, r' :: ps', hl, h1, h2 => by
    obtain ⟨⟨a1, a2⟩, a3⟩ := h1
    obtain ⟨⟨b1, b2⟩, b3⟩ := h2
    have e := LowSp_uniq (fun u _ _ => hl (h t) u) hb a2 b2
    subst e
    rw [PlO_uniq hb S _ _ ps ps' (FrE_cons hl) a3 b3]
theorem PlO_PlF {h : Int → Int} (hb : 0 ≤ bg) : ∀ (S : List Int) (l l' : List (Int × Int)) (ps : List Int), FrE l l' → PlO bg en h l S ps → PlF bg en h l' S → False
  | [], l, l', ps, _, _, h2 => h2
  | t :: S, l, l', [], _, h1, _ => h1
  | t :: S, l, l', r :: ps, hl, h1, h2 => by
    obtain ⟨⟨a1, a2⟩, a3⟩ := h1
    rcases h2 with b | ⟨r', b1, b2, b3⟩
    · have e := LowSp_uniq (fun u _ _ => hl (h t) u) hb a2 b
      omega
    · have e := LowSp_uniq (fun u _ _ => hl (h t) u) hb a2 b2
      subst e
      exact PlO_PlF hb S _ _ ps (FrE_cons hl) a3 b3
theorem PlO_len {h : Int → Int} : ∀ (S : List Int) (l : List (Int × Int)) (ps : List Int), PlO bg en h l S ps → ps.length = S.length
  | [], l, ps, h1 => by
    have h1' : ps = [] := by cases ps <;> exact h1
    rw [h1']
  | t :: S, l, [], h1 => absurd h1 id
  | t :: S, l, r :: ps, h1 => by
    rw [List.length_cons, List.length_cons, PlO_len S _ ps h1.2]
/-- a loop that picks the greatest, the first of like ones -/
theorem sel_sp {U : Int → Prop} {h : Int → Int} {f : Int → Int → Int} (h1 : ∀ i s, ¬ U i → f i s = s) (h2 : ∀ i s, U i → (s < 0 ∨ h s < h i) → f i s = i) (h3 : ∀ i s, U i → ¬ (s < 0 ∨ h s < h i) → f i s = s) : ∀ (m : Nat) (i s : Int), 0 ≤ i → ((s = -1 ∧ ∀ j : Int, 0 ≤ j → j < i → ¬ U j) ∨ ((0 ≤ s ∧ s < i) ∧ U s ∧ ∀ j : Int, 0 ≤ j → j < i → U j → j ≠ s → h j < h s ∨ (h j = h s ∧ s < j))) → ((lp f m i s = -1 ∧ ∀ j : Int, 0 ≤ j → j < i + m → ¬ U j) ∨ ((0 ≤ lp f m i s ∧ lp f m i s < i + m) ∧ U (lp f m i s) ∧ ∀ j : Int, 0 ≤ j → j < i + m → U j → j ≠ lp f m i s → h j < h (lp f m i s) ∨ (h j = h (lp f m i s) ∧ lp f m i s < j)))
  | 0, i, s, h0, hi => by
    simp only [lp]
    rw [show i + ((0 : Nat) : Int) = i by omega]
    exact hi
  | m + 1, i, s, h0, hi => by
    simp only [lp]
    rw [show i + ((m + 1 : Nat) : Int) = i + 1 + (m : Int) by omega]
    refine sel_sp h1 h2 h3 m (i + 1) (f i s) (by omega) ?_
    by_cases hU : U i
    · by_cases hc : s < 0 ∨ h s < h i
      · rw [h2 i s hU hc]
        refine Or.inr ⟨⟨h0, by omega⟩, hU, fun j j0 j1 hj hne => ?_⟩
        rcases hi with ⟨q1, q2⟩ | ⟨q1, q2, q3⟩
        · exact absurd hj (q2 j j0 (by omega))
        · by_cases hjs : j = s
          · rw [hjs]
            omega
          · have := q3 j j0 (by omega) hj hjs
            omega
      · rw [h3 i s hU hc]
        rcases hi with ⟨q1, q2⟩ | ⟨q1, q2, q3⟩
        · exact absurd (Or.inl (by omega)) hc
        · refine Or.inr ⟨⟨q1.1, by omega⟩, q2, fun j j0 j1 hj hne => ?_⟩
          by_cases hji : j = i
          · rw [hji]
            omega
          · exact q3 j j0 (by omega) hj hne
    · rw [h1 i s hU]
      rcases hi with ⟨q1, q2⟩ | ⟨q1, q2, q3⟩
      · refine Or.inl ⟨q1, fun j j0 j1 hj => ?_⟩
        by_cases hji : j = i
        · exact hU (hji ▸ hj)
        · exact q2 j j0 (by omega) hj
      · refine Or.inr ⟨⟨q1.1, by omega⟩, q2, fun j j0 j1 hj hne => ?_⟩
        by_cases hji : j = i
        · exact absurd (hji ▸ hj) hU
        · exact q3 j j0 (by omega) hj hne
/-- an own aperture of a kind that has no place -/
def OwU (A W : Int → Int) (dv k a : Int) : Prop := A (23 * dv + (6 + a)) = k ∧ W a < 0
theorem no_sp {W : Int → Int} (hM : MG A) (hd : 0 ≤ dv ∧ dv < 20) : (noM A W dv k = -1 ∧ ∀ j : Int, 0 ≤ j → j < A (23 * dv + 5) → ¬ OwU A W dv k j) ∨ ((0 ≤ noM A W dv k ∧ noM A W dv k < A (23 * dv + 5)) ∧ OwU A W dv k (noM A W dv k) ∧ ∀ j : Int, 0 ≤ j → j < A (23 * dv + 5) → OwU A W dv k j → j ≠ noM A W dv k → A (23 * dv + (9 + j)) < A (23 * dv + (9 + noM A W dv k)) ∨ (A (23 * dv + (9 + j)) = A (23 * dv + (9 + noM A W dv k)) ∧ noM A W dv k < j)) := by
  have h5 := MG_many hM hd
  have h := sel_sp (U := OwU A W dv k) (h := fun j => A (23 * dv + (9 + j))) (f := noF A W dv k) (fun i s hu => by
    unfold noF
    rw [if_pos]
    unfold OwU at hu
    by_cases q : A (23 * dv + (6 + i)) = k
    · exact Or.inr (by have : ¬ W i < 0 := fun t => hu ⟨q, t⟩; omega)
    · exact Or.inl q) (fun i s hu hc => by
    unfold noF
    unfold OwU at hu
    rw [if_neg (by omega), if_pos hc]) (fun i s hu hc => by
    unfold noF
    unfold OwU at hu
    rw [if_neg (by omega), if_neg hc]) (A (23 * dv + 5)).toNat 0 (-1) (by omega) (Or.inl ⟨rfl, fun j j0 j1 => by omega⟩)
  rw [show (0 : Int) + ((A (23 * dv + 5)).toNat : Int) = A (23 * dv + 5) by omega] at h
  exact h
theorem nt_sp {M R V : Int → Int} {nt : Int} (hn : 0 ≤ nt) : (ntM A M R V nt = -1 ∧ ∀ j : Int, 0 ≤ j → j < nt → ¬ V j < 0) ∨ ((0 ≤ ntM A M R V nt ∧ ntM A M R V nt < nt) ∧ V (ntM A M R V nt) < 0 ∧ ∀ j : Int, 0 ≤ j → j < nt → V j < 0 → j ≠ ntM A M R V nt → szT A (M (R j)) < szT A (M (R (ntM A M R V nt))) ∨ (szT A (M (R j)) = szT A (M (R (ntM A M R V nt))) ∧ ntM A M R V nt < j)) := by
  have h := sel_sp (U := fun j => V j < 0) (h := fun j => szT A (M (R j))) (f := ntF A M R V) (fun i s hu => by
    unfold ntF
    rw [if_pos (by omega)]) (fun i s hu hc => by
    unfold ntF
    rw [if_neg (by omega), if_pos hc]) (fun i s hu hc => by
    unfold ntF
    rw [if_neg (by omega), if_neg hc]) nt.toNat 0 (-1) (by omega) (Or.inl ⟨rfl, fun j j0 j1 => by omega⟩)
  rw [show (0 : Int) + (nt.toNat : Int) = nt by omega] at h
  exact h
/-- who is laid down first: the greater, its own, then by slot and number -/
def ixA (A : Int → Int) (dv t : Int) : Int := if deM t = dv then t % 3 else 3 + raM A t
def bef (A : Int → Int) (dv x y : Int) : Prop := szT A y < szT A x ∨ (szT A x = szT A y ∧ ixA A dv x < ixA A dv y)
theorem bef_asym (h : bef A dv x y) (h' : bef A dv y x) : False := by
  unfold bef at *
  omega
/-- the window of a bus as the class and the reference see it -/
def wbg (A : Int → Int) (bu k : Int) : Int := if wiM A bu k = 0 then 0 else beM A bu k
theorem loW_sp2 {n : Nat} {l : List (Int × Int)} (hn : n < 11) (hT : TR T l) (hl : ∀ p ∈ l, 1 ≤ p.2) (hs : 1 ≤ sz ∧ sz ≤ 1024) (hw : BwM A bu k) : LowSp (FreL l sz) (wbg A bu k) (wbg A bu k + wiM A bu k) (2 ^ n) sz (loW A T bu k sz (2 ^ n)) := by
  unfold wbg
  by_cases hnz : wiM A bu k = 0
  · rw [if_pos hnz]
    refine Or.inl ⟨if_pos hnz, fun u u0 u1 u2 => by omega⟩
  · rw [if_neg hnz]
    exact loW_sp hn hT hl hs hw hnz
theorem wbg_nn (hw : BwM A bu k) : 0 ≤ wbg A bu k := by
  unfold wbg
  obtain ⟨w1, w2, w3⟩ := hw
  split
  · omega
  · rename_i q
    exact (w3.resolve_left q).1
theorem LowSp_cases {F : Int → Prop} {r : Int} (hb : 0 ≤ bg) (h : LowSp F bg en st sz r) : r = -1 ∨ 0 ≤ r := by
  rcases h with ⟨h1, -⟩ | ⟨h1, -⟩
  · exact Or.inl h1
  · exact Or.inr (by omega)
/-- own things -/
theorem sz_own (hd : 0 ≤ dv ∧ dv < 20) (ha : 0 ≤ a ∧ a < 3) : szT A (3 * dv + a) = A (23 * dv + (9 + a)) ∧ ixA A dv (3 * dv + a) = a := by
  obtain ⟨d1, d2, d3, d4⟩ := de_ap hd.1 hd.2 ha.1 ha.2
  unfold szT ixA
  rw [d1, if_pos rfl, d3, show (3 * dv + a) / 3 = dv by omega]
  exact ⟨rfl, rfl⟩
/-- what is still to be laid down, in its order: own ones alone -/
def RemO (A W : Int → Int) (dv k : Int) (S : List Int) : Prop := List.Pairwise (bef A dv) S ∧ ∀ t, t ∈ S ↔ ∃ a : Int, 0 ≤ a ∧ a < A (23 * dv + 5) ∧ OwU A W dv k a ∧ t = 3 * dv + a
/-- sizes are powers of two -/
def SzP (A : Int → Int) (S : List Int) : Prop := ∀ t ∈ S, ∃ n : Nat, n ≤ 8 ∧ szT A t = 2 ^ n
theorem fi_run (hM : MG A) (hd : 0 ≤ dv ∧ dv < 20) (hw : BwM A bu k) : ∀ (n : Nat) (S : List Int) (T W : Int → Int) (l : List (Int × Int)), S.length < n → TR T l → (∀ p ∈ l, 1 ≤ p.2) → RemO A W dv k S → SzP A S → ((fiI A dv bu k n (T, W)).1 = 0 ∧ PlF (wbg A bu k) (wbg A bu k + wiM A bu k) (szT A) l S) ∨ ((fiI A dv bu k n (T, W)).1 = 1 ∧ ∃ ps, PlO (wbg A bu k) (wbg A bu k + wiM A bu k) (szT A) l S ps ∧ (∀ a, 3 * dv + a ∉ S → (fiI A dv bu k n (T, W)).2.2 a = W a) ∧ ∀ t r, (t, r) ∈ S.zip ps → (fiI A dv bu k n (T, W)).2.2 (t - 3 * dv) = r)
  | 0, S, T, W, l, hS, _, _, _, _ => by omega
  | n + 1, S, T, W, l, hS, hT, hl, hR, hz => by
    have h5 := MG_many hM hd
    have hwn := wbg_nn hw
    simp only [fiI]
    rcases no_sp (W := W) (k := k) hM hd with ⟨q1, q2⟩ | ⟨q1, q2, q3⟩
    · have hS0 : S = [] := by
        cases S with
        | nil => rfl
        | cons t S =>
          obtain ⟨a, a0, a1, a2, -⟩ := (hR.2 t).mp List.mem_cons_self
          exact absurd a2 (q2 a a0 a1)
      rw [if_pos (by omega), hS0]
      refine Or.inr ⟨rfl, [], rfl, fun a _ => rfl, fun t r htr => absurd htr List.not_mem_nil⟩
    · rw [if_neg (by omega)]
      generalize noM A W dv k = a at *
      have hin : 3 * dv + a ∈ S := (hR.2 _).mpr ⟨a, q1.1, q1.2, q2, rfl⟩
      obtain ⟨sz1, sz2⟩ := sz_own (A := A) hd (show 0 ≤ a ∧ a < 3 by omega)
      cases S with
      | nil => exact absurd hin List.not_mem_nil
      | cons t S =>
        obtain ⟨hp1, hp2⟩ := List.pairwise_cons.mp hR.1
        have ht : t = 3 * dv + a := by
          rcases List.mem_cons.mp hin with q | q
          · exact q.symm
          · exfalso
            have hb := hp1 _ q
            obtain ⟨b, b0, b1, b2, rfl⟩ := (hR.2 t).mp List.mem_cons_self
            obtain ⟨bz1, bz2⟩ := sz_own (A := A) hd (show 0 ≤ b ∧ b < 3 by omega)
            have hne : b ≠ a := fun s => by
              rw [s] at hb
              exact bef_asym hb hb
            have := q3 b b0 b1 b2 hne
            unfold bef at hb
            rw [sz1, bz1, sz2, bz2] at hb
            omega
        subst ht
        obtain ⟨e, e1, e2⟩ := hz _ List.mem_cons_self
        rw [sz1] at e2
        have hpw := pow_le8 e e1
        have hlo := loW_sp2 (n := e) (sz := A (23 * dv + (9 + a))) (by omega) hT hl (by omega) hw
        rw [e2] at hlo ⊢
        have hcs := LowSp_cases hwn hlo
        have hsz : szT A (3 * dv + a) = 2 ^ e := by rw [sz1, e2]
        generalize loW A T bu k (2 ^ e) (2 ^ e) = r at *
        by_cases c1 : r < 0
        · rw [if_pos c1]
          refine Or.inl ⟨rfl, Or.inl ?_⟩
          rw [hsz, show (-1 : Int) = r by omega]
          exact hlo
        · rw [if_neg c1]
          have hnin : 3 * dv + a ∉ S := fun hq => bef_asym (hp1 _ hq) (hp1 _ hq)
          have ih := fi_run hM hd hw n S (mkT T r (2 ^ e) 1) (ups W a r) ((r, 2 ^ e) :: l) (by rw [List.length_cons] at hS; omega) (TR_mk hT) (fun p hp => by
            rcases List.mem_cons.mp hp with rfl | hp
            · exact hpw.1
            · exact hl p hp) ⟨hp2, fun t => by
            constructor
            · intro hts
              obtain ⟨b, b0, b1, b2, rfl⟩ := (hR.2 t).mp (List.mem_cons_of_mem _ hts)
              have hne : b ≠ a := fun s => hnin (s ▸ hts)
              exact ⟨b, b0, b1, ⟨b2.1, by rw [ups_ne _ _ hne]; exact b2.2⟩, rfl⟩
            · rintro ⟨b, b0, b1, b2, rfl⟩
              have hne : b ≠ a := fun s => by
                have := b2.2
                rw [s, ups_at] at this
                omega
              have := (hR.2 (3 * dv + b)).mpr ⟨b, b0, b1, ⟨b2.1, by have := b2.2; rw [ups_ne _ _ hne] at this; exact this⟩, rfl⟩
              rcases List.mem_cons.mp this with h | h
              · omega
              · exact h⟩ (fun t ht => hz t (List.mem_cons_of_mem _ ht))
          rcases ih with ⟨i1, i2⟩ | ⟨i1, ps, i2, i3, i4⟩
          · refine Or.inl ⟨i1, Or.inr ⟨r, by omega, by rw [hsz]; exact hlo, by rw [hsz]; exact i2⟩⟩
          · refine Or.inr ⟨i1, r :: ps, ⟨⟨by omega, by rw [hsz]; exact hlo⟩, by rw [hsz]; exact i2⟩, fun b hb => ?_, fun t r' htr => ?_⟩
            · rw [i3 b (fun hq => hb (List.mem_cons_of_mem _ hq)), ups_ne _ _ (fun s => hb (by rw [s]; exact List.mem_cons_self))]
            · rw [List.zip_cons_cons] at htr
              rcases List.mem_cons.mp htr with h | h
              · rw [Prod.mk.injEq] at h
                rw [h.1, h.2, show 3 * dv + a - 3 * dv = a by omega, i3 a hnin, ups_at]
              · exact i4 t r' h
end BS
