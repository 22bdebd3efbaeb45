/-! POWER-UP: where things come to lie -/
section FE1
variable {X Y : zM} {c c' c0 cR A B S D w sp An o O0 : Int → Int} {e f a b k t x v n N d i q : Int} {on on' : Int → Bool} {r : zLy} {z : zSS} {y : zPw} {m : Nat}
/-- where a thing lies: on its bus, and its bus's window likewise -/
def liF (A D : Int → Int) : Nat → Int → Int
  | 0, t => D t
  | n + 1, t => D t + (if A (23 * deM t + 2) = -1 then 0 else liF A D n (60 + A (23 * deM t + 2)))
def liP (A D : Int → Int) (t : Int) : Int := liF A D 4 t
theorem liF_more (hs : gS A) : ∀ (n : Nat) (t : Int), thM A (deM t) → leM A (deM t) ≤ n → liF A D (n + 1) t = liF A D n t
  | 0, t, ht, hl => by
    rcases le_rec hs ht with ⟨q1, q2⟩ | ⟨q1, q2⟩
    · have e1 : liF A D 1 t = D t + (if A (23 * deM t + 2) = -1 then 0 else liF A D 0 (60 + A (23 * deM t + 2))) := rfl
      have e0 : liF A D 0 t = D t := rfl
      rw [e1, e0, if_pos q1]
      omega
    · have := le_bd A (A (23 * deM t + 2))
      omega
  | n + 1, t, ht, hl => by
    have e1 : liF A D (n + 1 + 1) t = D t + (if A (23 * deM t + 2) = -1 then 0 else liF A D (n + 1) (60 + A (23 * deM t + 2))) := rfl
    have e0 : liF A D (n + 1) t = D t + (if A (23 * deM t + 2) = -1 then 0 else liF A D n (60 + A (23 * deM t + 2))) := rfl
    rw [e1, e0]
    rcases le_rec hs ht with ⟨q1, q2⟩ | ⟨q1, q2⟩
    · rw [if_pos q1, if_pos q1]
    · have h0 := q1.1.1
      have hn : ¬ A (23 * deM t + 2) = -1 := by omega
      have hd := (de_br h0).1
      rw [if_neg hn, if_neg hn, liF_more hs n (60 + A (23 * deM t + 2)) (by rw [hd]; exact q1.1) (by rw [hd]; omega)]
theorem ps_rec (hs : gS A) (ht : thM A (deM t)) : liP A D t = D t + (if A (23 * deM t + 2) = -1 then 0 else liP A D (60 + A (23 * deM t + 2))) := by
  have e1 : liP A D t = D t + (if A (23 * deM t + 2) = -1 then 0 else liF A D 3 (60 + A (23 * deM t + 2))) := rfl
  rw [e1]
  rcases le_rec hs ht with ⟨q1, q2⟩ | ⟨q1, q2⟩
  · rw [if_pos q1, if_pos q1]
  · have h0 := q1.1.1
    have hn : ¬ A (23 * deM t + 2) = -1 := by omega
    have hd := (de_br h0).1
    have hb := le_bd A (deM t)
    have h3 := liF_more (D := D) hs 3 (60 + A (23 * deM t + 2)) (by rw [hd]; exact q1.1) (by rw [hd]; omega)
    rw [if_neg hn, if_neg hn]
    show D t + _ = D t + liF A D (3 + 1) _
    rw [h3]
/-- a bus with needs known: sizes, and that nothing is beyond the end -/
theorem nd_bus (g : gT A) (hon : ∀ e, on e = true → thM A e) (hN : NdK A on k r) (ha : a = -1 ∨ (on a = true ∧ A (23 * a + 1) = 1)) : (∀ t, itP A on (teS k r) k a t → (1 ≤ teS k r t ∧ 1 ≤ teP k r t) ∧ 0 ≤ teD k r t ∧ teD k r t + teS k r t ≤ teN k r a) ∧ (∀ t o, itP A on (teS k r) k a t → itP A on (teS k r) k a o → t ≠ o → teD k r t + teS k r t ≤ teD k r o ∨ teD k r o + teS k r o ≤ teD k r t) ∧ 0 ≤ teN k r a := by
  obtain ⟨n1, n2, n3⟩ := hN
  have hab : ApSp A on k (teS k r) (teP k r) a ∧ BuSp A on k (teS k r) (teP k r) (teD k r) a (teN k r a) (teG k r a) := by
    rcases ha with q | ⟨q, q'⟩
    · rw [q]
      exact n1.2
    · obtain ⟨b1, b2, -⟩ := n1.1 a q q'
      exact ⟨b1, b2⟩
  obtain ⟨hap, l, l1, l2, l3, l4⟩ := hab
  have hbr : ∀ t, itP A on (teS k r) k a t → ¬ t < 60 → (0 ≤ teS k r t ∧ teS k r t ≤ 8000000) ∧ ∃ q : Nat, q ≤ 8 ∧ teP k r t = 2 ^ q := fun t ht h6 => by
    obtain ⟨e1, e2⟩ := it_br ht h6
    have := n2 _ ht.2.2.1 e2
    rw [← e1] at this
    exact this
  obtain ⟨s1, s2, s3⟩ := bl_sum (m := 8000000) g hon hap l1 (by omega) hbr
  have hd := lyD_le (S := teS k r) (P := teP k r) (D := teD k r) l 0 (Int.le_refl _) (fun t ht => ⟨(s2 t ht).1.1, (s2 t ht).2⟩) l2
  have hpa := lyD_apart (S := teS k r) (P := teP k r) (D := teD k r) l 0 (Int.le_refl _) (fun t ht => ⟨(s2 t ht).1.1, (s2 t ht).2⟩) l2
  refine ⟨fun t ht => ?_, fun t o ht ho hne => ?_, by rw [l3]; exact s1.1⟩
  · have hl := (l1.2 t).mpr ht
    have h2 := s2 t hl
    have h3 := hd t hl
    rw [l3]
    refine ⟨⟨?_, h2.1.1⟩, by omega⟩
    by_cases h6 : t < 60
    · obtain ⟨u1, u2⟩ := hap t ht h6
      omega
    · have h5 := ht.2.2.2.2
      rw [if_neg h6] at h5
      omega
  · have := pw_any (R := fun x y => teD k r x + teS k r x ≤ teD k r y ∨ teD k r y + teS k r y ≤ teD k r x) (fun x y h => h.symm) l (List.Pairwise.imp (fun h => Or.inl h) hpa) t ((l1.2 t).mpr ht) o ((l1.2 o).mpr ho) hne
    exact this
/-- a thing's bus -/
theorem it_bus (hNo : NoR A on) (ht : itP A on S k a t) : a = -1 ∨ (on a = true ∧ A (23 * a + 1) = 1) := by
  have := hNo.1 _ ht.2.2.1
  rw [ht.2.2.2.1] at this
  exact this
theorem ps_bd (g : gT A) (hon : ∀ e, on e = true → thM A e) (hNo : NoR A on) (hN : NdK A on k r) (hsp : teN k r (-1) ≤ v) : ∀ (n : Nat) (a t : Int), leM A (deM t) ≤ n → itP A on (teS k r) k a t → (0 ≤ liP A (teD k r) t ∧ liP A (teD k r) t + teS k r t ≤ v) ∧ (a ≠ -1 → itP A on (teS k r) k (A (23 * a + 2)) (60 + a) ∧ liP A (teD k r) t = liP A (teD k r) (60 + a) + teD k r t ∧ liP A (teD k r) (60 + a) ≤ liP A (teD k r) t ∧ liP A (teD k r) t + teS k r t ≤ liP A (teD k r) (60 + a) + teS k r (60 + a))
  | n, a, t, hl, ht => by
    have hs := gT_S g
    have ha := it_bus hNo ht
    obtain ⟨b1, b2, b3⟩ := nd_bus g hon hN ha
    obtain ⟨⟨c1, c2⟩, c3, c4⟩ := b1 t ht
    have hth := hon _ ht.2.2.1
    have hrec := ps_rec (D := teD k r) hs hth
    rw [ht.2.2.2.1] at hrec
    by_cases q : a = -1
    · rw [if_pos q] at hrec
      rw [q] at c4
      exact ⟨by omega, fun r => absurd q r⟩
    · rw [if_neg q] at hrec
      obtain ⟨ho, hb⟩ := ha.resolve_left q
      have hta := hon a ho
      have h16 := (g.1 a (th_rg hta).1 (th_rg hta).2).2.2.2.2.2.2.2.1
      obtain ⟨-, -, e3, -⟩ := hN.1.1 a ho hb
      have hru := rupM_bd (v := teN k r a + A (23 * a + 16)) (s := 16) (by omega) (by omega)
      have hda := de_br hta.1
      have hi : itP A on (teS k r) k (A (23 * a + 2)) (60 + a) := by
        have hr := th_rg hta
        refine ⟨by omega, by omega, by rw [hda.1]; exact ho, by rw [hda.1], ?_⟩
        rw [if_neg hda.2.2, hda.1]
        exact ⟨hb, by omega⟩
      have hle := it_lev hs hon ht hta.1
      match n, hl with
      | 0, hl =>
        have := le_bd A a
        omega
      | n + 1, hl =>
        obtain ⟨i1, i2⟩ := ps_bd g hon hNo hN hsp n (A (23 * a + 2)) (60 + a) (by rw [hda.1]; omega) hi
        exact ⟨by omega, fun _ => ⟨hi, by omega, by omega, by omega⟩⟩
theorem ps_bd' (g : gT A) (hon : ∀ e, on e = true → thM A e) (hNo : NoR A on) (hN : NdK A on k r) (hsp : teN k r (-1) ≤ v) (ht : itP A on (teS k r) k a t) : (0 ≤ liP A (teD k r) t ∧ liP A (teD k r) t + teS k r t ≤ v) ∧ (a ≠ -1 → itP A on (teS k r) k (A (23 * a + 2)) (60 + a) ∧ liP A (teD k r) t = liP A (teD k r) (60 + a) + teD k r t ∧ liP A (teD k r) (60 + a) ≤ liP A (teD k r) t ∧ liP A (teD k r) t + teS k r t ≤ liP A (teD k r) (60 + a) + teS k r (60 + a)) := ps_bd g hon hNo hN hsp 4 a t (le_bd A (deM t)).2 ht
theorem ps_ap (g : gT A) (hon : ∀ e, on e = true → thM A e) (hNo : NoR A on) (hN : NdK A on k r) {o : Int} (ht : itP A on (teS k r) k a t) (ho : itP A on (teS k r) k a o) (hne : t ≠ o) : liP A (teD k r) t + teS k r t ≤ liP A (teD k r) o ∨ liP A (teD k r) o + teS k r o ≤ liP A (teD k r) t := by
  have hs := gT_S g
  have ha := it_bus hNo ht
  obtain ⟨b1, b2, b3⟩ := nd_bus g hon hN ha
  have h1 := b2 t o ht ho hne
  have r1 := ps_rec (D := teD k r) hs (hon _ ht.2.2.1)
  have r2 := ps_rec (D := teD k r) hs (hon _ ho.2.2.1)
  rw [ht.2.2.2.1] at r1
  rw [ho.2.2.2.1] at r2
  omega
end FE1
