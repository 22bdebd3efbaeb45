/-! THE GOOD STATES: what always holds of the 483 numbers -/
section GG
variable {A B : Int → Int} {e f k t o bu : Int}
def gSp (A : Int → Int) : Prop := ∀ k : Int, 0 ≤ k → k < 2 → 0 ≤ A (460 + k) ∧ A (460 + k) ≤ 1024
def gPar (A : Int → Int) : Prop := ∀ e : Int, thM A e → A (23 * e + 2) = -1 ∨ brM A (A (23 * e + 2))
def gSlo (A : Int → Int) : Prop := ∀ e f : Int, thM A e → thM A f → A (23 * e + 2) = A (23 * f + 2) → A (23 * e + 3) = A (23 * f + 3) → e = f
def gBr (A : Int → Int) : Prop := ∀ e : Int, brM A e → A (23 * e + 5) = 0
def gSz (A : Int → Int) : Prop := ∀ e a : Int, thM A e → 0 ≤ a → a < A (23 * e + 5) → ∃ n : Nat, n ≤ 8 ∧ A (23 * e + (9 + a)) = 2 ^ n
def gEw (A : Int → Int) : Prop := ∀ e k : Int, epM A e → 0 ≤ k → k < 2 → A (23 * e + (21 + k)) = 0
def gUp (A : Int → Int) : Prop := ∀ e : Int, onM A e → A (23 * e + 2) = -1 ∨ onM A (A (23 * e + 2))
def gOff (A : Int → Int) : Prop := ∀ e : Int, thM A e → ¬ onM A e → A (23 * e + 17) = -1 ∧ A (23 * e + 18) = -1 ∧ (∀ a : Int, 0 ≤ a → a < 3 → A (23 * e + (12 + a)) = -1) ∧ ∀ k : Int, 0 ≤ k → k < 2 → A (23 * e + (19 + k)) = -1 ∧ A (23 * e + (21 + k)) = 0
def gRg (A : Int → Int) : Prop := ∀ e : Int, onM A e → A (23 * e + 1) = 1 → (1 ≤ A (23 * e + 17) ∧ A (23 * e + 17) ≤ A (23 * e + 18) ∧ A (23 * e + 18) ≤ 31) ∧ fsM A (buM A e) < A (23 * e + 17) ∧ A (23 * e + 18) ≤ lsM A (buM A e)
def gRa (A : Int → Int) : Prop := ∀ e f : Int, e ≠ f → onM A e → A (23 * e + 1) = 1 → onM A f → A (23 * f + 1) = 1 → A (23 * e + 2) = A (23 * f + 2) → A (23 * e + 18) < A (23 * f + 17) ∨ A (23 * f + 18) < A (23 * e + 17)
def gIn (A : Int → Int) : Prop := ∀ t k : Int, 0 ≤ t → t < 80 → 0 ≤ k → k < 2 → itM A t k → 0 < wiM A (buM A (deM t)) k ∧ beM A (buM A (deM t)) k ≤ bgT A t k ∧ bgT A t k + wdT A t k ≤ beM A (buM A (deM t)) k + wiM A (buM A (deM t)) k ∧ 0 ≤ bgT A t k ∧ bgT A t k + wdT A t k ≤ 1024
def gAp (A : Int → Int) : Prop := ∀ t o k : Int, 0 ≤ t → t < 80 → 0 ≤ o → o < 80 → t ≠ o → 0 ≤ k → k < 2 → itM A t k → itM A o k → A (23 * deM t + 2) = A (23 * deM o + 2) → bgT A t k + wdT A t k ≤ bgT A o k ∨ bgT A o k + wdT A o k ≤ bgT A t k
/-- the tree's shape -/
def gT (A : Int → Int) : Prop := MG A ∧ MU A ∧ (0 ≤ A 462 ∧ A 462 ≤ 20) ∧ gSp A ∧ gPar A ∧ gSlo A ∧ gBr A ∧ gSz A ∧ gEw A
/-- what is given -/
def gO (A : Int → Int) : Prop := gUp A ∧ gOff A ∧ gRg A ∧ gRa A ∧ gIn A ∧ gAp A
def gGd (A : Int → Int) : Prop := gT A ∧ gO A
theorem th_rg (h : thM A e) : 0 ≤ e ∧ e < 20 := ⟨h.1, by have := h.2.1; omega⟩
theorem br_congr (h : Sm A B) : brM A e ↔ brM B e := by
  constructor
  · exact fun q => ⟨(th_congr h).mp q.1, by rw [← Sm_at h (th_rg q.1) (by omega)]; exact q.2⟩
  · exact fun q => ⟨(th_congr h).mpr q.1, by rw [Sm_at h (th_rg q.1) (by omega)]; exact q.2⟩
theorem ep_congr (h : Sm A B) : epM A e ↔ epM B e := by
  constructor
  · exact fun q => ⟨(th_congr h).mp q.1, by rw [← Sm_at h (th_rg q.1) (by omega)]; exact q.2⟩
  · exact fun q => ⟨(th_congr h).mpr q.1, by rw [Sm_at h (th_rg q.1) (by omega)]; exact q.2⟩
theorem on_congr (h : Sm A B) : onM A e ↔ onM B e := by
  constructor
  · exact fun q => ⟨(th_congr h).mp q.1, by rw [← Sm_at h (th_rg q.1) (by omega)]; exact q.2⟩
  · exact fun q => ⟨(th_congr h).mpr q.1, by rw [Sm_at h (th_rg q.1) (by omega)]; exact q.2⟩
theorem bu_congr (h : Sm A B) (he : 0 ≤ e ∧ e < 20) : buM A e = buM B e := by
  unfold buM
  rw [Sm_at h he (by omega)]
theorem bu_rg (hg : MG A) (he : 0 ≤ e ∧ e < 20) : 0 ≤ buM A e ∧ buM A e ≤ 20 := by
  have := (hg e he.1 he.2).2.1
  unfold buM
  split <;> omega
theorem be_congr (h : Sm A B) (hb : 0 ≤ bu ∧ bu ≤ 20) (hk : 0 ≤ k ∧ k < 2) : beM A bu k = beM B bu k ∧ wiM A bu k = wiM B bu k ∧ fsM A bu = fsM B bu ∧ lsM A bu = lsM B bu := by
  unfold beM wiM fsM lsM
  by_cases q : bu = 20
  · simp only [if_pos q]
    exact ⟨trivial, h _ (by omega) (by omega), trivial, trivial⟩
  · simp only [if_neg q]
    exact ⟨Sm_at h (by omega) (by omega), Sm_at h (by omega) (by omega), Sm_at h (by omega) (by omega), Sm_at h (by omega) (by omega)⟩
theorem bt_congr (h : Sm A B) (ht : 0 ≤ t ∧ t < 80) (hk : 0 ≤ k ∧ k < 2) : bgT A t k = bgT B t k ∧ wdT A t k = wdT B t k := by
  unfold bgT wdT bsT szT
  by_cases q : t < 60
  · simp only [if_pos q]
    exact ⟨Sm_at h (by omega) (by omega), Sm_at h (by omega) (by omega)⟩
  · simp only [if_neg q]
    exact ⟨Sm_at h (by omega) (by omega), Sm_at h (by omega) (by omega)⟩
theorem de_rg (h : 0 ≤ t ∧ t < 80) : 0 ≤ deM t ∧ deM t < 20 := deM_bd h
theorem it_congr (h : Sm A B) (ht : 0 ≤ t ∧ t < 80) (hk : 0 ≤ k ∧ k < 2) : itM A t k ↔ itM B t k := by
  have hd := de_rg ht
  unfold itM
  rw [on_congr h]
  by_cases q : t < 60
  · simp only [if_pos q]
    rw [Sm_at h hd (f := 5) (by omega), Sm_at h hd (f := 6 + t % 3) (by omega)]
  · simp only [if_neg q]
    rw [Sm_at h hd (f := 21 + k) (by omega)]
theorem gT_congr (h : Sm A B) (g : gT A) : gT B := by
  obtain ⟨g1, g2, g3, g4, g5, g6, g7, g8, g9⟩ := g
  have c462 : A 462 = B 462 := h _ (by omega) (by omega)
  refine ⟨MG_congr h g1, MU_congr h g2, by rw [← c462]; exact g3, fun k k0 k1 => ?_, fun e he => ?_, fun e f he hf h1 h2 => ?_, fun e he => ?_, fun e a he a0 a1 => ?_, fun e k he k0 k1 => ?_⟩
  · rw [← h _ (by omega) (by omega)]
    exact g4 k k0 k1
  · have he' := (th_congr h).mpr he
    rw [← Sm_at h (th_rg he) (by omega)]
    exact (g5 e he').imp id (fun q => (br_congr h).mp q)
  · have he' := (th_congr h).mpr he
    have hf' := (th_congr h).mpr hf
    rw [← Sm_at h (th_rg he) (by omega), ← Sm_at h (th_rg hf) (by omega)] at h1 h2
    exact g6 e f he' hf' h1 h2
  · rw [← Sm_at h (th_rg he.1) (by omega)]
    exact g7 e ((br_congr h).mpr he)
  · have he' := (th_congr h).mpr he
    rw [← Sm_at h (th_rg he) (by omega)] at a1
    have hm := (g1 e (th_rg he).1 (th_rg he).2).2.2.2.2.1
    rw [← Sm_at h (th_rg he) (by omega)]
    exact g8 e a he' a0 a1
  · rw [← Sm_at h (th_rg he.1) (by omega)]
    exact g9 e k ((ep_congr h).mpr he) k0 k1
theorem gO_congr (h : Sm A B) (hm : MG A) (g : gO A) : gO B := by
  obtain ⟨g1, g2, g3, g4, g5, g6⟩ := g
  refine ⟨fun e he => ?_, fun e he hn => ?_, fun e he hb => ?_, fun e f hne he he1 hf hf1 hat => ?_, fun t k t0 t1 k0 k1 hi => ?_, fun t o k t0 t1 o0 o1 hne k0 k1 hi hj hat => ?_⟩
  · have he' := (on_congr h).mpr he
    rw [← Sm_at h (th_rg he.1) (by omega)]
    exact (g1 e he').imp id (fun q => (on_congr h).mp q)
  · have hr := th_rg he
    obtain ⟨q1, q2, q3, q4⟩ := g2 e ((th_congr h).mpr he) (fun q => hn ((on_congr h).mp q))
    refine ⟨?_, ?_, fun a a0 a1 => ?_, fun k k0 k1 => ⟨?_, ?_⟩⟩
    · rw [← Sm_at h hr (by omega)]; exact q1
    · rw [← Sm_at h hr (by omega)]; exact q2
    · rw [← Sm_at h hr (by omega)]; exact q3 a a0 a1
    · rw [← Sm_at h hr (by omega)]; exact (q4 k k0 k1).1
    · rw [← Sm_at h hr (by omega)]; exact (q4 k k0 k1).2
  · have hr := th_rg he.1
    have hb2 := bu_rg hm hr
    obtain ⟨-, -, c3, c4⟩ := be_congr h hb2 (k := 0) (by omega)
    rw [← Sm_at h hr (f := 1) (by omega)] at hb
    rw [← Sm_at h hr (f := 17) (by omega), ← Sm_at h hr (f := 18) (by omega), ← bu_congr h hr, ← c3, ← c4]
    exact g3 e ((on_congr h).mpr he) hb
  · have hr := th_rg he.1
    have hs := th_rg hf.1
    rw [← Sm_at h hr (by omega)] at he1 hat
    rw [← Sm_at h hs (by omega)] at hf1 hat
    rw [← Sm_at h hr (f := 17) (by omega), ← Sm_at h hr (f := 18) (by omega), ← Sm_at h hs (f := 17) (by omega), ← Sm_at h hs (f := 18) (by omega)]
    exact g4 e f hne ((on_congr h).mpr he) he1 ((on_congr h).mpr hf) hf1 hat
  · have hd := de_rg ⟨t0, t1⟩
    obtain ⟨c1, c2, -, -⟩ := be_congr h (bu_rg hm hd) ⟨k0, k1⟩
    obtain ⟨c3, c4⟩ := bt_congr h ⟨t0, t1⟩ ⟨k0, k1⟩
    rw [← bu_congr h hd, ← c1, ← c2, ← c3, ← c4]
    exact g5 t k t0 t1 k0 k1 ((it_congr h ⟨t0, t1⟩ ⟨k0, k1⟩).mpr hi)
  · obtain ⟨c3, c4⟩ := bt_congr h ⟨t0, t1⟩ ⟨k0, k1⟩
    obtain ⟨c5, c6⟩ := bt_congr h ⟨o0, o1⟩ ⟨k0, k1⟩
    rw [← Sm_at h (de_rg ⟨t0, t1⟩) (by omega), ← Sm_at h (de_rg ⟨o0, o1⟩) (by omega)] at hat
    rw [← c3, ← c4, ← c5, ← c6]
    exact g6 t o k t0 t1 o0 o1 hne k0 k1 ((it_congr h ⟨t0, t1⟩ ⟨k0, k1⟩).mpr hi) ((it_congr h ⟨o0, o1⟩ ⟨k0, k1⟩).mpr hj) hat
theorem gGd_ok : GOK gGd := ⟨fun _ _ h g => ⟨gT_congr h g.1, gO_congr h g.1.1 g.2⟩, fun _ g => ⟨g.1.1, g.1.2.1, g.1.2.2.1⟩⟩
end GG
