/-! NEEDS: all buses of the class -/
section DI
variable {A B S P D S' P' D' c c' c0 w N G N' G' τ al sz bs' : Int → Int} {on : Int → Bool} {e f a b k t x y v n d i : Int} {l l' : List Int} {z : zSS}
theorem lyG_mem : ∀ (l : List Int), (∀ t ∈ l, 0 ≤ P t) → lyG P l = 0 ∨ ∃ t ∈ l, lyG P l = P t
  | [], _ => Or.inl rfl
  | u :: l, h => by
    have h1 := h u List.mem_cons_self
    have h2 := (lyG_ge (P := P) l).2.1
    have e : lyG P (u :: l) = max (P u) (lyG P l) := rfl
    rcases lyG_mem l (fun t ht => h t (List.mem_cons_of_mem _ ht)) with q | ⟨t, ht, q⟩
    · right
      exact ⟨u, List.mem_cons_self, by omega⟩
    · right
      by_cases r : lyG P l ≤ P u
      · exact ⟨u, List.mem_cons_self, by omega⟩
      · exact ⟨t, List.mem_cons_of_mem _ ht, by omega⟩
theorem max_pow {v : Int} (h : v = 0 ∨ ∃ q : Nat, q ≤ 8 ∧ v = 2 ^ q) : ∃ q : Nat, q ≤ 8 ∧ max 16 v = 2 ^ q := by
  rcases h with h | ⟨q, q1, q2⟩
  · exact ⟨4, by omega, by rw [h]; rfl⟩
  · have key : ∀ q : Nat, q ≤ 8 → ∃ r : Nat, r ≤ 8 ∧ max 16 ((2 : Int) ^ q) = 2 ^ r := by
      intro q hq
      rcases (show q = 0 ∨ q = 1 ∨ q = 2 ∨ q = 3 ∨ q = 4 ∨ q = 5 ∨ q = 6 ∨ q = 7 ∨ q = 8 by omega) with rfl | rfl | rfl | rfl | rfl | rfl | rfl | rfl | rfl
      · exact ⟨4, by omega, rfl⟩
      · exact ⟨4, by omega, rfl⟩
      · exact ⟨4, by omega, rfl⟩
      · exact ⟨4, by omega, rfl⟩
      · exact ⟨4, by omega, rfl⟩
      · exact ⟨5, by omega, rfl⟩
      · exact ⟨6, by omega, rfl⟩
      · exact ⟨7, by omega, rfl⟩
      · exact ⟨8, by omega, rfl⟩
    rw [q2]
    exact key q q1
theorem bdS_v : bdS 0 = 143 ∧ bdS 1 = 13575 ∧ bdS 2 = 121031 ∧ bdS 3 = 980679 ∧ bdS 4 = 7857863 := by decide
theorem bdS_le {v : Int} (h : 0 ≤ v ∧ v ≤ 4) : 143 ≤ bdS (4 - v).toNat ∧ bdS (4 - v).toNat ≤ 7857863 := by
  obtain ⟨h0, h1, h2, h3, h4⟩ := bdS_v
  rcases (show v = 0 ∨ v = 1 ∨ v = 2 ∨ v = 3 ∨ v = 4 by omega) with rfl | rfl | rfl | rfl | rfl
  · rw [show ((4 : Int) - 0).toNat = 4 from rfl, h4]
    omega
  · rw [show ((4 : Int) - 1).toNat = 3 from rfl, h3]
    omega
  · rw [show ((4 : Int) - 2).toNat = 2 from rfl, h2]
    omega
  · rw [show ((4 : Int) - 3).toNat = 1 from rfl, h1]
    omega
  · rw [show ((4 : Int) - 4).toNat = 0 from rfl, h0]
    omega
/-- windows bounded -/
def MsW (c : Int → Int) (on : Int → Bool) (k : Int) : Prop := ∀ e, on e = true → (0 ≤ gt c e (20 + k) ∧ gt c e (20 + k) ≤ 8000000) ∧ (gt c e 0 ≠ 1 → 0 < gt c e (20 + k) → ∃ q : Nat, q ≤ 8 ∧ gt c e (22 + k) = 2 ^ q)
/-- a bridge measured by the class -/
def BrC (c A : Int → Int) (on : Int → Bool) (k e : Int) : Prop := ((0 ≤ gt c e (20 + k) ∧ gt c e (20 + k) ≤ bdS (4 - leM A e).toNat) ∧ ∃ q : Nat, q ≤ 8 ∧ gt c e (22 + k) = 2 ^ q) ∧ ∃ l D, BusL A on k (szC c k) (alC c k) e l ∧ lyD (szC c k) (alC c k) D l 0 ∧ gt c e (20 + k) = rupM (lyE (szC c k) (alC c k) l 0 + A (23 * e + 16)) 16 ∧ gt c e (22 + k) = max 16 (lyG (alC c k) l)
theorem BusL_congr (h : BusL A on k S P a l) (hag : ∀ t, itP A on S k a t ∨ itP A on S' k a t → S t = S' t ∧ P t = P' t) : BusL A on k S' P' a l := by
  have hi : ∀ t, itP A on S k a t ↔ itP A on S' k a t := fun t => itP_iff (fun t ht => (hag t ht).1)
  refine ⟨?_, fun t => by rw [h.2, hi]⟩
  refine List.Pairwise.imp_of_mem ?_ h.1
  intro x y hx hy hxy
  have ex := hag x (Or.inl ((h.2 x).mp hx))
  have ey := hag y (Or.inl ((h.2 y).mp hy))
  unfold kyN at hxy ⊢
  rw [← ex.1, ← ex.2, ← ey.1, ← ey.2]
  exact hxy
/-- an aperture's size on a bus -/
theorem me_ap (g : gT A) (hon : ∀ e, on e = true → thM A e) (hm : MeC c A on) (ht : itP A on S k a t) (h6 : t < 60) : szC c k t = szT A t ∧ alC c k t = szT A t ∧ ∃ q : Nat, q ≤ 8 ∧ szT A t = 2 ^ q := by
  obtain ⟨t0, t1, to, ta, ti⟩ := ht
  rw [if_pos h6] at ti
  have hd : deM t = t / 3 := if_pos h6
  have hth := hon _ to
  obtain ⟨-, -, -, -, qx⟩ := hm.2.1 _ hth
  have := (qx (t % 3) (by omega) ti.1).2
  have hz := g.2.2.2.2.2.2.2.1 (deM t) (t % 3) hth (by omega) ti.1
  unfold szC alC szT
  rw [if_pos h6, if_pos h6, this, hd]
  rw [hd] at hz
  exact ⟨rfl, rfl, hz⟩
theorem br_cells (h6 : ¬ t < 60) : szC c k t = gt c (deM t) (20 + k) ∧ alC c k t = gt c (deM t) (22 + k) := by
  unfold szC alC
  rw [if_neg h6, if_neg h6]
  exact ⟨rfl, rfl⟩
theorem ups_stc {v : Int} (he : 0 ≤ e ∧ e < 20) (hf : 0 ≤ f ∧ f < 24) : ups c (e * 24 + f) v = stc c e f v := by
  unfold stc
  rw [if_pos ⟨he.1, he.2, hf.1, hf.2⟩]
/-- bounds of what lies on a bus whose bridges are measured -/
theorem me_bd (g : gT A) (hon : ∀ e, on e = true → thM A e) (hm : MeC c A on) (hW : MsW c on k) {t : Int} (ht : itP A on (szC c k) k a t) : (0 ≤ szC c k t ∧ szC c k t ≤ 8000000) ∧ ∃ q : Nat, q ≤ 8 ∧ alC c k t = 2 ^ q := by
  by_cases h6 : t < 60
  · obtain ⟨h1, h2, q, q1, q2⟩ := me_ap g hon hm ht h6
    have hp := pow_le8 q q1
    exact ⟨by omega, q, q1, by omega⟩
  · obtain ⟨h1, h2⟩ := br_cells (c := c) (k := k) h6
    obtain ⟨w1, w2⟩ := hW _ ht.2.2.1
    have h3 := ht.2.2.2.2
    rw [if_neg h6] at h3
    rw [h1] at h3
    have h0 := (hm.2.1 _ (hon _ ht.2.2.1)).1
    obtain ⟨q, q1, q2⟩ := w2 (by omega) (by omega)
    exact ⟨by omega, q, q1, by omega⟩
theorem me_sum (g : gT A) (hon : ∀ e, on e = true → thM A e) (hm : MeC c A on) (hl : BusL A on k (szC c k) (alC c k) a l) {m : Int} (hm0 : 0 ≤ m) (hx : ∀ x, on x = true → A (23 * x + 2) = a → A (23 * x + 1) = 1 → (0 ≤ gt c x (20 + k) ∧ gt c x (20 + k) ≤ m) ∧ ∃ q : Nat, q ≤ 8 ∧ gt c x (22 + k) = 2 ^ q) : (0 ≤ lyE (szC c k) (alC c k) l 0 ∧ lyE (szC c k) (alC c k) l 0 ≤ 8 * (1536 + m)) ∧ ∀ t ∈ l, 1 ≤ alC c k t ∧ 0 ≤ szC c k t := by
  have hb : ∀ t, itP A on (szC c k) k a t → 1 ≤ alC c k t ∧ 0 ≤ szC c k t := fun t ht => by
    by_cases h6 : t < 60
    · obtain ⟨h1, h2, q, q1, q2⟩ := me_ap g hon hm ht h6
      have hp := pow_le8 q q1
      omega
    · obtain ⟨h1, h2⟩ := br_cells (c := c) (k := k) h6
      obtain ⟨e1, e2⟩ := it_br ht h6
      obtain ⟨u1, q, q1, q2⟩ := hx _ ht.2.2.1 ht.2.2.2.1 e2
      have hp := pow_le8 q q1
      omega
  have hle := lyE_le (S := szC c k) (P := alC c k) l 0 (Int.le_refl _) (fun t ht => hb t ((hl.2 t).mp ht))
  have hs := bus_sum (h := fun t => szC c k t + alC c k t) g hon (List.Pairwise.imp (fun hxy q => by rw [q] at hxy; omega) hl.1) hl.2 hm0 (fun t ht h6 => by
    obtain ⟨h1, h2, q, q1, q2⟩ := me_ap g hon hm ht h6
    have hp := pow_le8 q q1
    show szC c k t + alC c k t ≤ 512
    omega) (fun t ht h6 => by
    obtain ⟨h1, h2⟩ := br_cells (c := c) (k := k) h6
    obtain ⟨e1, e2⟩ := it_br ht h6
    obtain ⟨u1, q, q1, q2⟩ := hx _ ht.2.2.1 ht.2.2.2.1 e2
    have hp := pow_le8 q q1
    show szC c k t + alC c k t ≤ 256 + m
    omega)
  exact ⟨⟨hle.1, by omega⟩, fun t ht => hb t ((hl.2 t).mp ht)⟩
/-- one bridge measured -/
theorem ms_one (g : gT A) (hF : WkF A w n) (hon : ∀ e, on e = true → thM A e) (hk : 0 ≤ k ∧ k < 2) (hm : MeC c A on) (hW : MsW c on k) (he : on e = true) (hbr : A (23 * e + 1) = 1) (hx : ∀ x, on x = true → A (23 * x + 2) = e → A (23 * x + 1) = 1 → (0 ≤ gt c x (20 + k) ∧ gt c x (20 + k) ≤ bdS (4 - leM A x).toNat) ∧ ∃ q : Nat, q ≤ 8 ∧ gt c x (22 + k) = 2 ^ q) : ∃ l D v1 v2, BusL A on k (szC c k) (alC c k) e l ∧ lyD (szC c k) (alC c k) D l 0 ∧ v1 = rupM (lyE (szC c k) (alC c k) l 0 + A (23 * e + 16)) 16 ∧ v2 = max 16 (lyG (alC c k) l) ∧ rup ((ndS c w n e k z).1 + gt c e 5) 16 = v1 ∧ max 16 (galS (ndS c w n e k z).2) = v2 ∧ (0 ≤ v1 ∧ v1 ≤ bdS (4 - leM A e).toNat) ∧ ∃ q : Nat, q ≤ 8 ∧ v2 = 2 ^ q := by
  have hs := gT_S g
  have hth := hon e he
  have hr := th_rg hth
  obtain ⟨l, D, h1, h2, h3, h4, h5, h6, h7⟩ := nd_sp (z := z) (a := e) (k := k) g hF hon hm (fun x hx => (hW x hx).1.1) (fun t ht => me_bd g hon hm hW ht)
  have h16 := (g.1 e hr.1 hr.2).2.2.2.2.2.2.2.1
  have e5 : gt c e 5 = A (23 * e + 16) := (hm.2.1 e hth).2.2.2.1
  have hlv := leM_bd (A := A) (e := e)
  have hlx : ∀ x, on x = true → A (23 * x + 2) = e → leM A x = leM A e + 1 := fun x hx hp => by
    rcases le_rec hs (hon x hx) with ⟨q1, q2⟩ | ⟨q1, q2⟩
    · omega
    · rw [hp] at q2
      exact q2
  have hbd : (0 ≤ lyE (szC c k) (alC c k) l 0 ∧ lyE (szC c k) (alC c k) l 0 + 143 ≤ bdS (4 - leM A e).toNat) := by
    by_cases h4' : leM A e = 4
    · have hnil : l = [] := by
        cases l with
        | nil => rfl
        | cons t l =>
          have ht := (h1.2 t).mp List.mem_cons_self
          have := hlx _ ht.2.2.1 ht.2.2.2.1
          have := leM_bd (A := A) (e := deM t)
          omega
      rw [hnil, h4']
      have e0 : lyE (szC c k) (alC c k) [] 0 = 0 := rfl
      rw [e0, show ((4 : Int) - 4).toNat = 0 from rfl, bdS_v.1]
      omega
    · have := (me_sum (m := bdS (4 - (leM A e + 1)).toNat) g hon hm h1 (by have := bdS_le (v := leM A e + 1) (by omega); omega) (fun x hx1 hx2 hx3 => by
        have := hx x hx1 hx2 hx3
        rw [hlx x hx1 hx2] at this
        exact this)).1
      have eb : bdS (4 - leM A e).toNat = 8 * (1536 + bdS (4 - (leM A e + 1)).toNat) + 143 := by
        rw [show (4 - leM A e).toNat = (4 - (leM A e + 1)).toNat + 1 by omega]
        rfl
      omega
  have hb8 := bdS_le hlv
  refine ⟨l, D, _, _, h1, h2, rfl, rfl, ?_, by rw [h5], ?_, ?_⟩
  · rw [h3, e5]
    exact rup_eq (n := 4) (by omega) (by omega)
  · have := rupM_bd (v := lyE (szC c k) (alC c k) l 0 + A (23 * e + 16)) (s := 16) (by omega) (by omega)
    omega
  · refine max_pow ?_
    rcases lyG_mem (P := alC c k) l (fun t ht => by
      obtain ⟨-, q, q1, q2⟩ := me_bd g hon hm hW ((h1.2 t).mp ht)
      have := pow_le8 q q1
      omega) with q | ⟨t, ht, q⟩
    · exact Or.inl q
    · right
      rw [q]
      exact (me_bd g hon hm hW ((h1.2 t).mp ht)).2
/-- cells that may change -/
def MsK (c c0 : Int → Int) (k : Int) : Prop := ∀ e f : Int, f ≠ 20 + k → f ≠ 22 + k → gt c e f = gt c0 e f
theorem MeC_keep (hk : 0 ≤ k ∧ k < 2) (hm : MeC c0 A on) (h : MsK c c0 k) : MeC c A on := by
  obtain ⟨m1, m2, m3⟩ := hm
  have hg : ∀ e f : Int, f < 20 → gt c e f = gt c0 e f := fun e f hf => h e f (by omega) (by omega)
  refine ⟨fun e => ?_, fun e he => ?_, fun e e0 e1 => ?_⟩
  · rw [hg e 0 (by omega), hg e 1 (by omega), hg e 2 (by omega)]
    exact m1 e
  · rw [hg e 0 (by omega), hg e 3 (by omega), hg e 6 (by omega), hg e 5 (by omega)]
    obtain ⟨q1, q2, q3, q4, q5⟩ := m2 e he
    refine ⟨q1, q2, q3, q4, fun x x0 x1 => ?_⟩
    have h3 := (m3 e (th_rg he).1 (th_rg he).2).2
    rw [hg e (9 + x) (by omega), hg e (12 + x) (by omega)]
    exact q5 x x0 x1
  · rw [hg e 6 (by omega)]
    exact m3 e e0 e1
theorem TB_keep (hk : 0 ≤ k ∧ k < 2) (h : MsK c c0 k) (hb : TB c0) : TB c := fun e => by
  have hg : ∀ f : Int, f < 20 → gt c e f = gt c0 e f := fun f hf => h e f (by omega) (by omega)
  refine ⟨by rw [hg 6 (by omega)]; exact (hb e).1, fun x x0 x1 => ?_⟩
  rw [hg (12 + x) (by omega)]
  exact (hb e).2 x x0 x1
theorem TW_of (g : gT A) (hon : ∀ e, on e = true → thM A e) (hm : MeC c A on) (hW : MsW c on k) (hoff : ∀ e, 0 ≤ e → e < 20 → gt c e 3 = 1 → thM A e) : TW c k := fun e e0 e1 h3 => by
  have hth := hoff e e0 e1 h3
  obtain ⟨q1, q2, q3, q4, q5⟩ := hm.2.1 e hth
  have ho := q2.mp h3
  have h5 := MG_many g.1 (dv := e) ⟨e0, e1⟩
  refine ⟨fun x x0 x1 => ?_, fun h0 hw => ?_⟩
  · rw [q3] at x1
    rw [(q5 x x0 x1).2]
    obtain ⟨q, r1, r2⟩ := g.2.2.2.2.2.2.2.1 e x hth x0 x1
    have := pow_le8 q r1
    omega
  · obtain ⟨w1, w2⟩ := hW e ho
    obtain ⟨q, r1, r2⟩ := w2 h0 hw
    have := pow_le8 q r1
    omega
/-- the measuring loop -/
theorem ms_run (g : gT A) (hF : WkF A w n) (hon : ∀ e, on e = true → thM A e) (hk : 0 ≤ k ∧ k < 2) (hm0 : MeC c0 A on) (hT0 : TB c0) (h50 : ∀ e, 0 ≤ gt c0 e 5 + 1 ∧ gt c0 e 5 ≤ 1048576) (hoff : ∀ e, 0 ≤ e → e < 20 → gt c0 e 3 = 1 → thM A e) : ∀ (m : Nat) (y : (Int → Int) × zSS), (m : Int) ≤ n → MsK y.1 c0 k → MsW y.1 on k → (∀ j : Int, (m : Int) ≤ j → j < n → on (w j) = true → A (23 * w j + 1) = 1 → BrC y.1 A on k (w j)) → MsOK w n k m y ∧ MsK (msd w n k m y).1 c0 k ∧ MsW (msd w n k m y).1 on k ∧ ∀ e, on e = true → A (23 * e + 1) = 1 → BrC (msd w n k m y).1 A on k e
  | 0, y, hmn, hK, hW, hB => by
    refine ⟨⟨TB_keep hk hK hT0, TW_of g hon (MeC_keep hk hm0 hK) hW (fun e e0 e1 h3 => hoff e e0 e1 (by rw [← hK e 3 (by omega) (by omega)]; exact h3))⟩, hK, hW, fun e he hb => ?_⟩
    obtain ⟨j, j0, j1, j2⟩ := (hF.2.2 e).mpr (hon e he)
    have := hB j j0 j1 (by rw [j2]; exact he) (by rw [j2]; exact hb)
    rw [j2] at this
    exact this
  | m + 1, y, hmn, hK, hW, hB => by
    have hs := gT_S g
    have hm := MeC_keep hk hm0 hK
    have hth : thM A (w m) := (hF.2.2 _).mp ⟨m, by omega, by omega, rfl⟩
    have hr := th_rg hth
    have ew : wka w n (m : Nat) = w (m : Nat) := by
      unfold wka
      rw [if_pos ⟨by omega, by omega, by have := hF.1.2; omega⟩]
    have hcond : (gt y.1 (w (m : Nat)) 0 = 2 ∧ gt y.1 (w (m : Nat)) 3 = 1) ↔ (A (23 * w (m : Nat) + 1) = 1 ∧ on (w (m : Nat)) = true) := by
      obtain ⟨q1, q2, -⟩ := hm.2.1 _ hth
      rw [q1, q2]
      constructor
      · rintro ⟨r1, r2⟩
        exact ⟨by omega, r2⟩
      · rintro ⟨r1, r2⟩
        exact ⟨by omega, r2⟩
    have hok : TB y.1 ∧ TW y.1 k ∧ ∀ e, 0 ≤ gt y.1 e 5 + 1 ∧ gt y.1 e 5 ≤ 1048576 := ⟨TB_keep hk hK hT0, TW_of g hon hm hW (fun e e0 e1 h3 => hoff e e0 e1 (by rw [← hK e 3 (by omega) (by omega)]; exact h3)), fun e => by
      rw [hK e 5 (by omega) (by omega)]
      exact h50 e⟩
    have em : msd w n k (m + 1) y = msd w n k m (msf w n k (m : Nat) y) := rfl
    have eo : MsOK w n k (m + 1) y = ((TB y.1 ∧ TW y.1 k ∧ ∀ e, 0 ≤ gt y.1 e 5 + 1 ∧ gt y.1 e 5 ≤ 1048576) ∧ MsOK w n k m (msf w n k (m : Nat) y)) := rfl
    rw [em, eo]
    suffices hsuf : MsK (msf w n k (m : Nat) y).1 c0 k ∧ MsW (msf w n k (m : Nat) y).1 on k ∧ ∀ j : Int, (m : Int) ≤ j → j < n → on (w j) = true → A (23 * w j + 1) = 1 → BrC (msf w n k (m : Nat) y).1 A on k (w j) by
      obtain ⟨i1, i2, i3, i4⟩ := ms_run g hF hon hk hm0 hT0 h50 hoff m (msf w n k (m : Nat) y) (by omega) hsuf.1 hsuf.2.1 hsuf.2.2
      exact ⟨⟨hok, i1⟩, i2, i3, i4⟩
    by_cases hc : A (23 * w (m : Nat) + 1) = 1 ∧ on (w (m : Nat)) = true
    · -- a bridge
      have hafter : ∀ x, on x = true → A (23 * x + 2) = w (m : Nat) → ∃ j : Int, (m : Int) < j ∧ j < n ∧ w j = x := fun x hx hp => by
        obtain ⟨j, j0, j1, j2⟩ := (hF.2.2 x).mpr (hon x hx)
        refine ⟨j, ?_, j1, j2⟩
        have hke := ke_par hs (hon x hx) (by rw [hp]; exact ⟨hth, hc.1⟩)
        rw [hp] at hke
        rcases Int.lt_trichotomy (m : Int) j with q | q | q
        · exact q
        · rw [← j2, ← q] at hke
          omega
        · have := hF.2.1 j m j0 q (by omega)
          rw [j2] at this
          omega
      obtain ⟨l, D, v1, v2, b1, b2, b3, b4, b5, b6, b7, b8⟩ := ms_one (z := y.2) g hF hon hk hm hW hc.2 hc.1 (fun x hx hp hb => by
        obtain ⟨j, j0, j1, j2⟩ := hafter x hx hp
        have := hB j (by omega) j1 (by rw [j2]; exact hx) (by rw [j2]; exact hb)
        rw [j2] at this
        exact this.1)
      have ef : (msf w n k (m : Nat) y).1 = stc (stc y.1 (w (m : Nat)) (20 + k) v1) (w (m : Nat)) (22 + k) v2 := by
        unfold msf
        rw [ew, if_pos (hcond.mpr hc), b5, b6]
        dsimp only
        rw [ups_stc hr (by omega), ups_stc hr (by omega)]
      generalize (msf w n k (m : Nat) y).1 = C at *
      have hgt : ∀ e f : Int, gt C e f = if e = w (m : Nat) ∧ f = 22 + k then v2 else if e = w (m : Nat) ∧ f = 20 + k then v1 else gt y.1 e f := fun e f => by
        rw [ef, gt_stc, gt_stc]
        by_cases q1 : e = w (m : Nat) ∧ f = 22 + k
        · rw [if_pos q1, if_pos ⟨q1.1, q1.2, hr.1, hr.2, by omega, by omega⟩]
        · rw [if_neg q1, if_neg (fun q => q1 ⟨q.1, q.2.1⟩)]
          by_cases q2 : e = w (m : Nat) ∧ f = 20 + k
          · rw [if_pos q2, if_pos ⟨q2.1, q2.2, hr.1, hr.2, by omega, by omega⟩]
          · rw [if_neg q2, if_neg (fun q => q2 ⟨q.1, q.2.1⟩)]
      have hv20 : gt C (w (m : Nat)) (20 + k) = v1 := by rw [hgt, if_neg (by omega), if_pos ⟨rfl, rfl⟩]
      have hv22 : gt C (w (m : Nat)) (22 + k) = v2 := by rw [hgt, if_pos ⟨rfl, rfl⟩]
      have hne : ∀ e f : Int, e ≠ w (m : Nat) → gt C e f = gt y.1 e f := fun e f h => by rw [hgt, if_neg (fun q => h q.1), if_neg (fun q => h q.1)]
      have hlv := bdS_le (leM_bd (A := A) (e := w (m : Nat)))
      -- what lies on the bus of a bridge that comes later is as it was
      have hag : ∀ j : Int, (m : Int) ≤ j → j < n → ∀ t, itP A on (szC y.1 k) k (w j) t ∨ itP A on (szC C k) k (w j) t → szC y.1 k t = szC C k t ∧ alC y.1 k t = alC C k t := fun j j0 j1 t ht => by
        have hcom : on (deM t) = true ∧ A (23 * deM t + 2) = w j := by
          rcases ht with h | h
          · exact ⟨h.2.2.1, h.2.2.2.1⟩
          · exact ⟨h.2.2.1, h.2.2.2.1⟩
        have hthx := hon _ hcom.1
        have hthj : thM A (w j) := (hF.2.2 _).mp ⟨j, by omega, j1, rfl⟩
        have hd : deM t ≠ w (m : Nat) := fun q => by
          have hke := ke_par hs hthx ((hs.2.1 _ hthx).resolve_left (by rw [hcom.2]; have := hthj.1; omega))
          rw [hcom.2, q] at hke
          rcases Int.lt_trichotomy (m : Int) j with r | r | r
          · have := hF.2.1 m j (by omega) r j1
            omega
          · rw [← r] at hke
            omega
          · omega
        unfold szC alC
        rw [hne _ _ hd, hne _ _ hd, hne _ _ hd]
        exact ⟨rfl, rfl⟩
      refine ⟨fun e f f1 f2 => ?_, fun e he => ?_, fun j j0 j1 hoj hbj => ?_⟩
      · rw [hgt, if_neg (fun q => f2 q.2), if_neg (fun q => f1 q.2)]
        exact hK e f f1 f2
      · by_cases q : e = w (m : Nat)
        · rw [q, hv20, hv22]
          exact ⟨by omega, fun _ _ => b8⟩
        · rw [hne _ _ q, hne _ _ q, hne _ _ q]
          exact hW e he
      · by_cases q : j = m
        · rw [q]
          refine ⟨?_, l, D, BusL_congr b1 (hag m (Int.le_refl _) (by omega)), ?_, ?_, ?_⟩
          · rw [hv20, hv22]
            exact ⟨b7, b8⟩
          · exact lyD_congr l 0 (fun t ht => by
              have := hag m (Int.le_refl _) (by omega) t (Or.inl ((b1.2 t).mp ht))
              exact ⟨this.1, this.2, rfl⟩) b2
          · rw [hv20, b3, lyE_congr l 0 (fun t ht => hag m (Int.le_refl _) (by omega) t (Or.inl ((b1.2 t).mp ht)))]
          · rw [hv22, b4, lyG_congr l (fun t ht => (hag m (Int.le_refl _) (by omega) t (Or.inl ((b1.2 t).mp ht))).2)]
        · have hwj : w j ≠ w (m : Nat) := fun r => by
            have := hF.2.1 m j (by omega) (by omega) j1
            rw [r] at this
            omega
          obtain ⟨c1, l', D', c2, c3, c4, c5⟩ := hB j (by omega) j1 hoj hbj
          refine ⟨by rw [hne _ _ hwj, hne _ _ hwj]; exact c1, l', D', BusL_congr c2 (hag j j0 j1), ?_, ?_, ?_⟩
          · exact lyD_congr l' 0 (fun t ht => by
              have := hag j j0 j1 t (Or.inl ((c2.2 t).mp ht))
              exact ⟨this.1, this.2, rfl⟩) c3
          · rw [hne _ _ hwj, c4, lyE_congr l' 0 (fun t ht => hag j j0 j1 t (Or.inl ((c2.2 t).mp ht)))]
          · rw [hne _ _ hwj, c5, lyG_congr l' (fun t ht => (hag j j0 j1 t (Or.inl ((c2.2 t).mp ht))).2)]
    · have ef : msf w n k (m : Nat) y = y := by
        unfold msf
        rw [ew, if_neg (fun q => hc (hcond.mp q))]
      rw [ef]
      refine ⟨hK, hW, fun j j0 j1 hoj hbj => ?_⟩
      by_cases q : j = m
      · rw [q] at hoj hbj
        exact absurd ⟨hbj, hoj⟩ hc
      · exact hB j (by omega) j1 hoj hbj
end DI
