/-! CLASS AND REFERENCE: the history; undo and redo -/
section SU
variable {im X : zM} {c A B : Int → Int} {t u v : Nat} {e f : Int} {G : (Int → Int) → Prop}
/-- a predicate of 483 numbers -/
def GOK (G : (Int → Int) → Prop) : Prop := (∀ A B, Sm A B → G A → G B) ∧ (∀ A, G A → MG A ∧ MU A ∧ (0 ≤ A 462 ∧ A 462 ≤ 20))
def row (w : Int → Int) (r : Int) : Int → Int := fun j => w (483 * r + j)
/-- bounds of all cells of the class -/
def Cls (c : Int → Int) : Prop := ∀ e : Int, 0 ≤ e → e < 20 → (0 ≤ gt c e 6 ∧ gt c e 6 ≤ 3) ∧ (0 ≤ gt c e 4 ∧ gt c e 4 ≤ 3) ∧ (0 ≤ gt c e 5 ∧ gt c e 5 ≤ 128) ∧ (0 ≤ gt c e 2 ∧ gt c e 2 ≤ 7) ∧ (gt c e 0 = 0 → gt c e 3 = 0 ∧ gt c e 6 = 0) ∧ (∀ a : Int, 0 ≤ a → a < 3 → (0 ≤ gt c e (12 + a) ∧ gt c e (12 + a) ≤ 256) ∧ (-1 ≤ gt c e (15 + a) ∧ gt c e (15 + a) ≤ 1024) ∧ (a < gt c e 6 → 1 ≤ gt c e (12 + a))) ∧ (∀ k : Int, 0 ≤ k → k < 2 → (-1 ≤ gt c e (18 + k) ∧ gt c e (18 + k) ≤ 1024) ∧ (0 ≤ gt c e (20 + k) ∧ gt c e (20 + k) ≤ 1024) ∧ (0 < gt c e 0 → gt c e 3 ≠ 1 → gt c e (18 + k) = -1 ∧ gt c e (20 + k) = 0))
def GdT (G : (Int → Int) → Prop) (im : zM) (t : Nat) (A : Int → Int) : Prop := TrI im t A ∧ G A ∧ Cls (im (t + 1))
theorem GdT_of (hG : GOK G) (h : GdT G im v A) (hX : ∀ p : Nat, v ≤ p → p ≤ v + 4 → X p = im p) (hs : Sm A B) : GdT G X v B := by
  obtain ⟨h1, h2, h3⟩ := h
  obtain ⟨g1, g2, g3⟩ := hG.2 A h2
  refine ⟨TrI_congr hs g1 g2 g3.2 (TrI_of h1 hX), hG.1 A B hs h2, ?_⟩
  rw [hX (v + 1) (by omega) (by omega)]
  exact h3
def InvH (G : (Int → Int) → Prop) (im : zM) : Prop := HH im ∧ HM im ∧ (im 1 2 = im 171 32 ∧ im 1 3 = im 171 33) ∧ im 1 2 + im 1 3 ≤ 20 ∧ GdT G im (nowT (im 1 1)) (im 172) ∧ (∀ j : Int, 1 ≤ j → j ≤ im 1 2 → GdT G im (nowT ((im 1 1 - j) % 21)) (row (im 190) (im 1 2 - j))) ∧ (∀ j : Int, 1 ≤ j → j ≤ im 1 3 → GdT G im (nowT ((im 1 1 + j) % 21)) (row (im 190) (im 1 2 + j - 1)))
theorem nw_rg {q : Int} (h : 0 ≤ q ∧ q < 21) : 3 ≤ nowT q ∧ nowT q + 4 ≤ 107 := by
  unfold nowT
  omega
theorem row_ka {w A : Int → Int} {a : Int} : Sm A (row (kaB w A (483 * a) 0) a) := fun j h0 h1 => by
  unfold row kaB
  rw [if_pos ⟨by omega, by omega⟩, show 483 * a + j - 483 * a = j by omega]
theorem row_ka2 {w A : Int → Int} {a r : Int} (h : r ≠ a) : Sm (row w r) (row (kaB w A (483 * a) 0) r) := fun j h0 h1 => by
  unfold row kaB
  rw [if_neg (by omega)]
theorem row_sw {w A : Int → Int} {a : Int} : Sm (row w a) (swA w A (483 * a) 0) := fun j h0 h1 => by
  unfold row swA
  rw [if_pos ⟨h0, h1⟩]
/-- the memory after one step back -/
theorem InvH_undo (hG : GOK G) (h : InvH G im) (hn : im 1 2 ≠ 0) {Y : zM} (hY : ∀ p : Nat, 2 ≤ p → p < 171 → Y p = im p) (y1 : Y 1 1 = (im 1 1 + 21 - 1) % 21 ∧ Y 1 2 = im 1 2 - 1 ∧ Y 1 3 = im 1 3 + 1) (y2 : Y 171 32 = im 171 32 - 1 ∧ Y 171 33 = im 171 33 + 1) (y3 : Y 190 = kaB (im 190) (im 172) (483 * (im 171 32 - 1)) 0) (y4 : Y 172 = swA (im 190) (im 172) (483 * (im 171 32 - 1)) 0) : InvH G Y := by
  obtain ⟨hh, hm, ⟨e1, e2⟩, hs, hnow, hpast, hfut⟩ := h
  obtain ⟨⟨p0, p1⟩, ⟨n0, n1⟩, ⟨f0, f1⟩⟩ := hh
  have hT : ∀ q : Int, 0 ≤ q ∧ q < 21 → ∀ p : Nat, nowT q ≤ p → p ≤ nowT q + 4 → Y p = im p := fun q hq p h0 h1 => by
    have := nw_rg hq
    exact hY p (by omega) (by omega)
  refine ⟨⟨by rw [y1.1]; omega, by rw [y1.2.1]; omega, by rw [y1.2.2]; omega⟩, ⟨by rw [y2.1]; omega, by rw [y2.2]; omega⟩, ⟨by rw [y1.2.1, y2.1]; omega, by rw [y1.2.2, y2.2]; omega⟩, by rw [y1.2.1, y1.2.2]; omega, ?_, fun j j0 j1 => ?_, fun j j0 j1 => ?_⟩
  · have h1 := hpast 1 (by omega) (by omega)
    rw [y1.1, y4, show (im 1 1 + 21 - 1) % 21 = (im 1 1 - 1) % 21 by omega]
    refine GdT_of hG h1 (hT _ (by omega)) ?_
    rw [show im 1 2 - 1 = im 171 32 - 1 by omega]
    exact row_sw
  · rw [y1.2.1] at j1
    have h1 := hpast (j + 1) (by omega) (by omega)
    rw [y1.1, y1.2.1, y3, show ((im 1 1 + 21 - 1) % 21 - j) % 21 = (im 1 1 - (j + 1)) % 21 by omega]
    refine GdT_of hG h1 (hT _ (by omega)) ?_
    rw [show im 1 2 - (j + 1) = im 1 2 - 1 - j by omega]
    exact row_ka2 (by omega)
  · rw [y1.2.2] at j1
    rw [y1.1, y1.2.1, y3]
    by_cases q : j = 1
    · rw [q, show ((im 1 1 + 21 - 1) % 21 + 1) % 21 = im 1 1 by omega]
      refine GdT_of hG hnow (hT _ ⟨p0, p1⟩) ?_
      rw [show im 1 2 - 1 + 1 - 1 = im 171 32 - 1 by omega]
      exact row_ka
    · have h1 := hfut (j - 1) (by omega) (by omega)
      rw [show ((im 1 1 + 21 - 1) % 21 + j) % 21 = (im 1 1 + (j - 1)) % 21 by omega]
      refine GdT_of hG h1 (hT _ (by omega)) ?_
      rw [show im 1 2 + (j - 1) - 1 = im 1 2 - 1 + j - 1 by omega]
      exact row_ka2 (by omega)
/-- the memory after one step forth -/
theorem InvH_redo (hG : GOK G) (h : InvH G im) (hn : im 1 3 ≠ 0) {Y : zM} (hY : ∀ p : Nat, 2 ≤ p → p < 171 → Y p = im p) (y1 : Y 1 1 = (im 1 1 + 1) % 21 ∧ Y 1 2 = im 1 2 + 1 ∧ Y 1 3 = im 1 3 - 1) (y2 : Y 171 32 = im 171 32 + 1 ∧ Y 171 33 = im 171 33 - 1) (y3 : Y 190 = kaB (im 190) (im 172) (483 * im 171 32) 0) (y4 : Y 172 = swA (im 190) (im 172) (483 * im 171 32) 0) : InvH G Y := by
  obtain ⟨hh, hm, ⟨e1, e2⟩, hs, hnow, hpast, hfut⟩ := h
  obtain ⟨⟨p0, p1⟩, ⟨n0, n1⟩, ⟨f0, f1⟩⟩ := hh
  have hT : ∀ q : Int, 0 ≤ q ∧ q < 21 → ∀ p : Nat, nowT q ≤ p → p ≤ nowT q + 4 → Y p = im p := fun q hq p h0 h1 => by
    have := nw_rg hq
    exact hY p (by omega) (by omega)
  refine ⟨⟨by rw [y1.1]; omega, by rw [y1.2.1]; omega, by rw [y1.2.2]; omega⟩, ⟨by rw [y2.1]; omega, by rw [y2.2]; omega⟩, ⟨by rw [y1.2.1, y2.1]; omega, by rw [y1.2.2, y2.2]; omega⟩, by rw [y1.2.1, y1.2.2]; omega, ?_, fun j j0 j1 => ?_, fun j j0 j1 => ?_⟩
  · have h1 := hfut 1 (by omega) (by omega)
    rw [y1.1, y4]
    refine GdT_of hG h1 (hT _ (by omega)) ?_
    rw [show im 1 2 + 1 - 1 = im 171 32 by omega]
    exact row_sw
  · rw [y1.2.1] at j1
    rw [y1.1, y1.2.1, y3]
    by_cases q : j = 1
    · rw [q, show ((im 1 1 + 1) % 21 - 1) % 21 = im 1 1 by omega]
      refine GdT_of hG hnow (hT _ ⟨p0, p1⟩) ?_
      rw [show im 1 2 + 1 - 1 = im 171 32 by omega]
      exact row_ka
    · have h1 := hpast (j - 1) (by omega) (by omega)
      rw [show ((im 1 1 + 1) % 21 - j) % 21 = (im 1 1 - (j - 1)) % 21 by omega]
      refine GdT_of hG h1 (hT _ (by omega)) ?_
      rw [show im 1 2 - (j - 1) = im 1 2 + 1 - j by omega]
      exact row_ka2 (by omega)
  · rw [y1.2.2] at j1
    have h1 := hfut (j + 1) (by omega) (by omega)
    rw [y1.1, y1.2.1, y3, show ((im 1 1 + 1) % 21 + j) % 21 = (im 1 1 + (j + 1)) % 21 by omega]
    refine GdT_of hG h1 (hT _ (by omega)) ?_
    rw [show im 1 2 + (j + 1) - 1 = im 1 2 + 1 + j - 1 by omega]
    exact row_ka2 (by omega)
end SU
