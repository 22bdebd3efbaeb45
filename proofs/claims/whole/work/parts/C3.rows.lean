/-! ROWS one after another: class and reference go alike -/
section CD
variable {im X Y : zM} {c c' c0 s sp A B w w' T : Int → Int} {e f a b x y d k m n u un st bg en bu v sz ad dv nt i : Int} {z z0 M L : zSS} {p q r : Int → Bool}
theorem nrf_val : ∀ (m : Nat) (i : Int) (c : Int → Int) (j : Int), lp nrf m i c j = if i ≤ j ∧ j < i + m then c (i - 1) + (j - i + 1) else c j
  | 0, i, c, j => by
    rw [if_neg (by omega)]
    rfl
  | m + 1, i, c, j => by
    simp only [lp]
    rw [nrf_val m (i + 1) (nrf i c) j]
    have e1 : nrf i c (i + 1 - 1) = c (i - 1) + 1 := by
      unfold nrf
      rw [show i + 1 - 1 = i by omega, ups_at]
    rw [e1]
    by_cases q : i + 1 ≤ j ∧ j < i + 1 + m
    · rw [if_pos q, if_pos (by omega)]
      omega
    · rw [if_neg q]
      unfold nrf
      by_cases q2 : j = i
      · rw [q2, ups_at, if_pos (by omega)]
        omega
      · rw [ups_ne _ _ q2, if_neg (by omega)]
theorem ChR_up {ch : Int → Int} {len nm j : Int} (h : ChR ch len nm) (j0 : 0 ≤ j) (j1 : j < len) : ch j ≤ nm - len + j := by
  obtain ⟨hl, h1, h2⟩ := h
  have a := h1 (len - 1) (by omega) (by omega)
  by_cases c1 : j = len - 1
  · rw [c1]
    omega
  · have b := h2 j (len - 1) j0 (by omega) (by omega)
    by_cases c2 : j = len - 2
    · omega
    · have b1 := h2 j (j + 1) j0 (by omega) (by omega)
      have b2 := h2 (j + 1) (len - 1) (by omega) (by omega) (by omega)
      omega
theorem nr_loop {ch R : Int → Int} {len nm : Int} (h : ChR ch len nm) (hag : ∀ j : Int, 0 ≤ j → j < len → R j = ch j) : ∀ (m : Nat), (m : Int) ≤ len → (∀ j : Int, (m : Int) ≤ j → j < len → ch j = nm - len + j) → ((nrI len nm m ch).1 = 0 ∧ (nrJ len nm m R).1 = 0) ∨ ((nrI len nm m ch).1 = 1 ∧ (nrJ len nm m R).1 = 1 ∧ ChR (nrI len nm m ch).2 len nm ∧ ∀ j : Int, 0 ≤ j → j < len → (nrJ len nm m R).2 j = (nrI len nm m ch).2 j)
  | 0, _, _ => Or.inl ⟨rfl, rfl⟩
  | m + 1, hm, htop => by
    simp only [nrI, nrJ]
    have hup := ChR_up h (j := (m : Int)) (by omega) (by omega)
    have hR := hag m (by omega) (by omega)
    obtain ⟨hl, h1, h2⟩ := h
    by_cases c1 : ch (m : Nat) < nm - len + (m : Nat)
    · rw [if_pos c1, if_neg (by omega)]
      right
      have e3 : (min len 3 - ((m : Int) + 1)).toNat = (len - ((m : Int) + 1)).toNat := by omega
      have hv : ∀ j : Int, lp nrf (min len 3 - ((m : Nat) + 1)).toNat ((m : Nat) + 1) (ups ch (m : Nat) (ch (m : Nat) + 1)) j = if (m : Int) + 1 ≤ j ∧ j < len then ch m + 1 + (j - m) else if j = m then ch m + 1 else ch j := fun j => by
        rw [nrf_val, show (m : Int) + 1 - 1 = m by omega, ups_at]
        by_cases q : (m : Int) + 1 ≤ j ∧ j < len
        · rw [if_pos q, if_pos (by omega)]
          omega
        · rw [if_neg q, if_neg (by omega)]
          rfl
      have hv' : ∀ j : Int, lp nrf (len - ((m : Nat) + 1)).toNat ((m : Nat) + 1) (ups R (m : Nat) (R (m : Nat) + 1)) j = if (m : Int) + 1 ≤ j ∧ j < len then R m + 1 + (j - m) else if j = m then R m + 1 else R j := fun j => by
        rw [nrf_val, show (m : Int) + 1 - 1 = m by omega, ups_at]
        by_cases q : (m : Int) + 1 ≤ j ∧ j < len
        · rw [if_pos q, if_pos (by omega)]
          omega
        · rw [if_neg q, if_neg (by omega)]
          rfl
      refine ⟨rfl, rfl, ⟨hl, fun j j0 j1 => ?_, fun a b a0 ab b1 => ?_⟩, fun j j0 j1 => ?_⟩
      · dsimp only
        rw [hv]
        have hm0 := h1 m (by omega) (by omega)
        have hj0 := h1 j j0 j1
        (repeat' split) <;> omega
      · dsimp only
        rw [hv, hv]
        have hm0 := h1 m (by omega) (by omega)
        by_cases qa : a < m
        · have hab := h2 a m a0 qa (by omega)
          by_cases qb : b < m
          · have := h2 a b a0 ab b1
            (repeat' split) <;> omega
          · (repeat' split) <;> omega
        · (repeat' split) <;> omega
      · dsimp only
        rw [hv, hv', hR]
        (repeat' split) <;> first | rfl | exact hag j j0 j1
    · rw [if_neg c1, if_pos (by omega)]
      exact nr_loop ⟨hl, h1, h2⟩ hag m (by omega) (fun j j0 j1 => by
        by_cases q : j = m
        · rw [q]
          omega
        · exact htop j (by omega) j1)
theorem nr_both {ch R : Int → Int} {len nm : Int} (h : ChR ch len nm) (hag : ∀ j : Int, 0 ≤ j → j < len → R j = ch j) : ((nrS len nm ch).1 = 0 ∧ (nrJ len nm len.toNat R).1 = 0) ∨ ((nrS len nm ch).1 = 1 ∧ (nrJ len nm len.toNat R).1 = 1 ∧ ChR (nrS len nm ch).2 len nm ∧ ∀ j : Int, 0 ≤ j → j < len → (nrJ len nm len.toNat R).2 j = (nrS len nm ch).2 j) := by
  unfold nrS
  have hl := h.1
  rw [show (min len 3).toNat = len.toNat by omega]
  exact nr_loop h hag len.toNat (by omega) (fun j j0 j1 => by omega)
/-- what the reference's tries don't touch -/
theorem ltI_W {Mv R : Int → Int} (hM : MG A) (hd : 0 ≤ dv ∧ dv < 20) : ∀ (n : Nat) (y : (Int → Int) × (Int → Int) × (Int → Int)) (b : Int), ¬ (b < A (23 * dv + 5) ∧ A (23 * dv + (6 + b)) = k) → (ltI A Mv R nt dv bu k n y).2.2.1 b = y.2.1 b
  | 0, y, b, _ => rfl
  | n + 1, y, b, hb => by
    simp only [ltI]
    split
    · rfl
    · split
      · split
        · rfl
        · rename_i h1 h2 h3
          rw [ltI_W hM hd n _ b hb]
          dsimp only
          rcases noM_cases (W := y.2.1) (k := k) hM hd with q | ⟨q1, q2, q3, q4⟩
          · omega
          · rw [ups_ne _ _ (fun s => hb ⟨by omega, by rw [s]; exact q3⟩)]
      · split
        · rfl
        · rw [ltI_W hM hd n _ b hb]
theorem ltR_keep (hM : MG A) (hd : 0 ≤ dv ∧ dv < 20) (r : zRb) : (∀ b : Int, 0 ≤ b → ¬ (b < A (23 * dv + 5) ∧ A (23 * dv + (6 + b)) = k) → (ltR A dv bu k r).2.2.1 b = r.2.1 b) ∧ (ltR A dv bu k r).2.2.2.1 = r.2.2.1 ∧ (ltR A dv bu k r).2.2.2.2.1 = r.2.2.2.1 ∧ (ltR A dv bu k r).2.2.2.2.2.2.1 = r.2.2.2.2.2.1 ∧ (ltR A dv bu k r).2.2.2.2.2.2.2 = r.2.2.2.2.2.2 := by
  refine ⟨fun b b0 hb => ?_, rfl, rfl, rfl, rfl⟩
  show (ltT A dv bu k r).2.2.1 b = r.2.1 b
  unfold ltT
  rw [ltI_W hM hd 7 _ b hb]
  dsimp only
  unfold ldW
  rw [ldW_sp (W := r.2.1), if_neg (fun q => hb ⟨by omega, q.2.2⟩)]
/-- where class and reference stand between the tries -/
def StP (A c0 w : Int → Int) (n a k dv : Int) (c : Int → Int) (Bz Mz : zSS) (τM W0 : Int → Int) (P : zPl) (r : zRb) : Prop := P.1 = c ∧ P.2.1 = Bz ∧ P.2.2.1 = Mz ∧ (∀ j : Int, 0 ≤ j → j < Mz.2.2.2.2.2 → r.2.2.1 j = τM j) ∧ r.2.2.2.2.2.1 = Mz.2.2.2.2.2 ∧ ∀ b : Int, 0 ≤ b → b < 3 → ¬ (b < A (23 * dv + 5) ∧ A (23 * dv + (6 + b)) = k) → r.2.1 b = W0 b
/-- what is known of the shelves of a bus on the way -/
def ShP (A c0 w : Int → Int) (n a k : Int) (Bz Mz : zSS) (τM : Int → Int) : Prop := shL Bz = (thL c0 w n a k).map (recC c0 k) ∧ (0 ≤ Bz.2.2.2.2.2 ∧ Bz.2.2.2.2.2 ≤ 24) ∧ shL Mz = (mvL c0 w n a k).map (recC c0 k) ∧ (0 ≤ Mz.2.2.2.2.2 ∧ Mz.2.2.2.2.2 ≤ 24) ∧ mvL c0 w n a k = (rgL 0 Mz.2.2.2.2.2.toNat).map τM ∧ (fxL c0 w n a k).length + Mz.2.2.2.2.2 ≤ 24
/-- what both have once a row would do -/
def ResP (A c0 w : Int → Int) (n a k dv : Int) (Mz : zSS) (τM W0 : Int → Int) (P : zPl) (r : zRb) : Prop := ∃ len : Int, ChR P.2.2.2.2.2 len Mz.2.2.2.2.2 ∧ r.2.2.2.2.2.2 = len ∧ (∀ j : Int, 0 ≤ j → j < len → r.2.2.2.1 j = P.2.2.2.2.2 j) ∧ RowX A c0 w n a k dv Mz.2.2.2.2.2 len τM P.2.2.2.2.2 P.2.2.2.2.1 W0 r.2.1 r.2.2.2.2.1
theorem rw_both (hR : RC A c0 w n a dv sp) (hk : 0 ≤ k ∧ k < 2) {Bz Mz : zSS} {τM W0 : Int → Int} (hK : KcR A c c0 k) (hS : ShP A c0 w n a k Bz Mz τM) {len : Int} : ∀ (m : Nat) (P : zPl) (r : zRb), StP A c0 w n a k dv c Bz Mz τM W0 P r → ChR P.2.2.2.2.2 len Mz.2.2.2.2.2 → (∀ j : Int, 0 ≤ j → j < len → r.2.2.2.1 j = P.2.2.2.2.2 j) → r.2.2.2.2.2.2 = len → StP A c0 w n a k dv c Bz Mz τM W0 (rwS sp dv a k len m P).2 (rtS A dv (bfM a) k m r).2 ∧ (((rwS sp dv a k len m P).1 = 0 ∧ (rtS A dv (bfM a) k m r).1 = 0) ∨ ((rwS sp dv a k len m P).1 = 1 ∧ (rtS A dv (bfM a) k m r).1 = 1 ∧ ResP A c0 w n a k dv Mz τM W0 (rwS sp dv a k len m P).2 (rtS A dv (bfM a) k m r).2)) := by
  obtain ⟨g, hc, hC, hF, ha, hd, hsp⟩ := id hR
  have hr := th_rg hd.1.1
  obtain ⟨s1, s2, s3, s4, s5, s6⟩ := id hS
  intro m
  induction m with
  | zero => exact fun P r hP _ _ _ => ⟨hP, Or.inl ⟨rfl, rfl⟩⟩
  | succ m ih =>
    intro P r hP hch hag hn
    obtain ⟨p1, p2, p3, p4, p5, p6⟩ := id hP
    simp only [rwS, rtS]
    have hb := row_both hR hk (P := P) (len := len) (τM := τM) (r := r) (by rw [p1]; exact hK) (by rw [p2]; exact s1) (by rw [p2]; exact s2) (by rw [p3]; exact s3) (by rw [p3]; exact s4) (by rw [p3]; exact s5) (by rw [p3]; exact hch) (by rw [p3]; exact s6) (by rw [p3]; exact p4) hag hn
    obtain ⟨k1, k2, k3, k4, k5⟩ := ltR_keep (k := k) (bu := bfM a) g.1.1 hr r
    have hStF : StP A c0 w n a k dv c Bz Mz τM W0 (fr1 sp dv a k len P).2 (ltR A dv (bfM a) k r).2 := by
      refine ⟨p1, p2, p3, fun j j0 j1 => ?_, ?_, fun b b0 b1 hb' => ?_⟩
      · rw [k2]
        exact p4 j j0 j1
      · rw [k4]
        exact p5
      · rw [k1 b b0 hb']
        exact p6 b b0 b1 hb'
    rcases hb with ⟨b1, b2⟩ | ⟨b1, b2, b3⟩
    · rw [if_neg (show ¬ (fr1 sp dv a k len P).1 = 1 by omega), if_neg (show ¬ (ltR A dv (bfM a) k r).1 = 1 by omega), hn, p3, p5]
      rcases nr_both hch hag with ⟨n1, n2⟩ | ⟨n1, n2, n3, n4⟩
      · rw [if_pos n1, if_neg (show ¬ (nrJ len Mz.2.2.2.2.2 len.toNat r.2.2.2.1).1 = 1 by omega)]
        exact ⟨hStF, Or.inl ⟨rfl, rfl⟩⟩
      · rw [if_neg (show ¬ (nrS len Mz.2.2.2.2.2 P.2.2.2.2.2).1 = 0 by omega), if_pos n2]
        exact ih _ _ hStF n3 n4 hn
    · rw [if_pos b1, if_pos b2]
      refine ⟨hStF, Or.inr ⟨b1, b2, len, hch, by rw [k5]; exact hn, ?_, ?_⟩⟩
      · rw [k3]
        exact hag
      · rw [p3] at b3
        obtain ⟨τ, N, x1, x2, x3, x4, x5, x6, x7, x8, x9⟩ := b3
        exact ⟨τ, N, x1, x2, x3, x4, x5, x6, x7, x8, fun b b0 b1' hb' => by rw [x9 b b0 b1' hb']; exact p6 b b0 b1' hb'⟩
theorem fw_0 {len : Int} : ∀ (m : Nat) (n' : Int) (r : zRb), r.2.2.2.2.2.1 < n' → (fwS A dv bu k m n' r).1 = 0 ∧ (fwS A dv bu k m n' r).2.2.1 = r.2.1 ∧ (fwS A dv bu k m n' r).2.2.2.1 = r.2.2.1 ∧ (fwS A dv bu k m n' r).2.2.2.2.2.2.1 = r.2.2.2.2.2.1
  | 0, n', r, _ => ⟨rfl, rfl, rfl, rfl⟩
  | m + 1, n', r, h => by
    simp only [fwS]
    rw [if_neg (by omega)]
    exact fw_0 (len := len) m (n' + 1) (rFr r n') (by
      show r.2.2.2.2.2.1 < n' + 1
      omega)
theorem chI_val {len : Int} (hl : 0 ≤ len ∧ len ≤ 3) (ch : Int → Int) {j : Int} (j0 : 0 ≤ j) (j1 : j < len) : chI len ch j = j := by
  unfold chI
  rw [fr_val, if_pos (by omega)]
theorem fl_both (hR : RC A c0 w n a dv sp) (hk : 0 ≤ k ∧ k < 2) {Bz Mz : zSS} {τM W0 : Int → Int} (hK : KcR A c c0 k) (hS : ShP A c0 w n a k Bz Mz τM) : ∀ (m : Nat) (len : Int) (P : zPl) (r : zRb), 0 ≤ len → len + m ≤ 4 → StP A c0 w n a k dv c Bz Mz τM W0 P r → StP A c0 w n a k dv c Bz Mz τM W0 (flS sp dv a k m len P).2 (fwS A dv (bfM a) k m len r).2 ∧ (((flS sp dv a k m len P).1 = 0 ∧ (fwS A dv (bfM a) k m len r).1 = 0) ∨ ((flS sp dv a k m len P).1 = 1 ∧ (fwS A dv (bfM a) k m len r).1 = 1 ∧ ResP A c0 w n a k dv Mz τM W0 (flS sp dv a k m len P).2 (fwS A dv (bfM a) k m len r).2)) := by
  intro m
  induction m with
  | zero => exact fun len P r _ _ hP => ⟨hP, Or.inl ⟨rfl, rfl⟩⟩
  | succ m ih =>
    intro len P r l0 l1 hP
    obtain ⟨p1, p2, p3, p4, p5, p6⟩ := id hP
    by_cases c1 : len ≤ Mz.2.2.2.2.2
    · simp only [flS, fwS]
      rw [p3, p5, if_pos c1, if_pos c1]
      have hch : ChR (plc P (chI len P.2.2.2.2.2)).2.2.2.2.2 len Mz.2.2.2.2.2 := by
        rw [plc_ch]
        refine ⟨⟨l0, by omega⟩, fun j j0 j1 => ?_, fun x y x0 xy y1 => ?_⟩
        · rw [chI_val ⟨l0, by omega⟩ _ j0 j1]
          omega
        · rw [chI_val ⟨l0, by omega⟩ _ x0 (by omega), chI_val ⟨l0, by omega⟩ _ (by omega) y1]
          exact xy
      have hag : ∀ j : Int, 0 ≤ j → j < len → (rFr r len).2.2.2.1 j = (plc P (chI len P.2.2.2.2.2)).2.2.2.2.2 j := fun j j0 j1 => by
        rw [plc_ch, chI_val ⟨l0, by omega⟩ _ j0 j1]
        show lp (fun i c => ups c i i) len.toNat 0 r.2.2.2.1 j = j
        rw [fr_val, if_pos (by omega)]
      have hSt : StP A c0 w n a k dv c Bz Mz τM W0 (plc P (chI len P.2.2.2.2.2)) (rFr r len) := ⟨p1, p2, p3, p4, p5, p6⟩
      obtain ⟨h1, h2⟩ := rw_both hR hk hK hS 10000 _ _ hSt hch hag rfl
      rcases h2 with ⟨b1, b2⟩ | ⟨b1, b2, b3⟩
      · rw [if_neg (by omega), if_neg (by omega)]
        exact ih (len + 1) _ _ (by omega) (by omega) h1
      · rw [if_pos b1, if_pos b2]
        exact ⟨h1, Or.inr ⟨b1, b2, b3⟩⟩
    · have e1 : flS sp dv a k (m + 1) len P = (0, P) := by
        simp only [flS]
        rw [p3, if_neg c1]
      obtain ⟨f1, f2, f3, f4⟩ := fw_0 (A := A) (dv := dv) (bu := bfM a) (k := k) (len := len) (m + 1) len r (by omega)
      rw [e1]
      refine ⟨⟨p1, p2, p3, fun j j0 j1 => ?_, ?_, fun b b0 b1 hb => ?_⟩, Or.inl ⟨rfl, f1⟩⟩
      · rw [f3]
        exact p4 j j0 j1
      · rw [f4]
        exact p5
      · rw [f2]
        exact p6 b b0 b1 hb
end CD
