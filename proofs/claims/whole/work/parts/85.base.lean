/-! CLASS AND REFERENCE: what every step stands on; the reads that touch nothing -/
section SB
variable {Inv : zM → Prop} {im : zM}
def SimT (im : zM) (t : Nat) : Prop := SimC (im (t + 1)) (im 172) ∧ (∀ k : Int, 0 ≤ k → k < 2 → im (t + 2) k = im 172 (460 + k)) ∧ im t 5 = im 172 462 ∧ (∀ i : Int, 0 ≤ i → i < im t 5 → im (t + 4) i = im 172 (463 + i))
def Bas (im : zM) : Prop := HH im ∧ HM im ∧ (MG (im 172) ∧ MU (im 172)) ∧ TB (im (nowT (im 1 1) + 1)) ∧ SimT im (nowT (im 1 1)) ∧ (0 ≤ im 172 462 ∧ im 172 462 ≤ 20) ∧ (im 1 2 = im 171 32 ∧ im 1 3 = im 171 33)
theorem sp_refused (hB : ∀ im, Inv im → Bas im) : Sp1 99 Inv 97 190 := by
  intro im hI i _
  obtain ⟨hh, hm, ⟨hg, hu⟩, hb, ⟨hc, hs, h5, h4⟩, hr, hn⟩ := hB im hI
  refine (c_refusedB (d := 98) hh rfl).mpr ⟨_, rfl, (c_refusedM (d := 98) hr).mpr ⟨?_, hI⟩⟩
  have e : (if 0 ≤ i ∧ i ≤ im 172 462 - 1 then im 172 (463 + i) else -1) = (if 0 ≤ i ∧ i < im (nowT (im 1 1)) 5 ∧ i < 20 then im (nowT (im 1 1) + 4) i else -1) := by
    by_cases c : 0 ≤ i ∧ i ≤ im 172 462 - 1
    · rw [if_pos c, if_pos (show 0 ≤ i ∧ i < im (nowT (im 1 1)) 5 ∧ i < 20 by omega), h4 i c.1 (by omega)]
    · rw [if_neg c, if_neg (by omega)]
  rw [e]
theorem sp_device (hB : ∀ im, Inv im → Bas im) : Sp2 99 Inv 98 223 := by
  intro im hI a _ b _
  obtain ⟨hh, hm, ⟨hg, hu⟩, hb, ⟨hc, hs, h5, h4⟩, hr, hn⟩ := hB im hI
  exact (c_device (d := 97) hh rfl).mpr ⟨_, rfl, (c_deviceM (d := 97)).mpr ⟨by rw [sim_device hc], hI⟩⟩
theorem sp_bar (hB : ∀ im, Inv im → Bas im) : Sp3 99 Inv 99 224 := by
  intro im hI a _ b _ c _
  obtain ⟨hh, hm, ⟨hg, hu⟩, hb, ⟨hc, hs, h5, h4⟩, hr, hn⟩ := hB im hI
  exact (c_bar (d := 97) hh rfl (hb a).1).mpr ⟨_, rfl, (c_barM (d := 97) hg).mpr ⟨by rw [sim_bar hc], hI⟩⟩
theorem sp_window (hB : ∀ im, Inv im → Bas im) : Sp2 99 Inv 100 225 := by
  intro im hI a _ b _
  obtain ⟨hh, hm, ⟨hg, hu⟩, hb, ⟨hc, hs, h5, h4⟩, hr, hn⟩ := hB im hI
  exact (c_window (d := 97) hh rfl).mpr ⟨_, rfl, (c_windowM (d := 96)).mpr ⟨by rw [sim_window hc], hI⟩⟩
theorem sp_bus (hB : ∀ im, Inv im → Bas im) : Sp1 99 Inv 101 226 := by
  intro im hI a _
  obtain ⟨hh, hm, ⟨hg, hu⟩, hb, ⟨hc, hs, h5, h4⟩, hr, hn⟩ := hB im hI
  exact (c_bus (d := 96) hh rfl).mpr ⟨_, rfl, (c_busM (d := 95) hg).mpr ⟨by rw [sim_bus hc hg], hI⟩⟩
/-- what of the memory counts: all but scratch -/
def AgS (X im : zM) : Prop := (∀ p : Nat, p < 120 → X p = im p) ∧ (X 171 32 = im 171 32 ∧ X 171 33 = im 171 33) ∧ (∀ p : Nat, 190 ≤ p → X p = im p) ∧ (∀ j : Int, 0 ≤ j → j < 483 → X 172 j = im 172 j)
theorem AgS_wkm {y : (Int → Int) × Int} : AgS (wkm im y) im := by
  unfold wkm
  refine ⟨fun p hp => ?_, ⟨?_, ?_⟩, fun p hp => ?_, fun j _ _ => ?_⟩
  · rw [setc_ne _ _ (by omega), setc_ne _ _ (by omega)]
  · rw [setc_at, ups_ne _ _ (by omega)]
  · rw [setc_at, ups_ne _ _ (by omega)]
  · rw [setc_ne _ _ (by omega), setc_ne _ _ (by omega)]
  · rw [setc_ne _ _ (by omega), setc_ne _ _ (by omega)]
/-- the class's walk is the reference's -/
def WkE (im : zM) (t : Nat) : Prop := im t 4 = (waM im).2 ∧ ∀ i : Int, 0 ≤ i → i < im t 4 → im (t + 3) i = (waM im).1 i
theorem sp_walk (hB : ∀ im, Inv im → Bas im) (hW : ∀ im, Inv im → WkE im (nowT (im 1 1))) (hS : ∀ im y, Inv im → Inv (wkm im y)) : Sp1 99 Inv 103 228 := by
  intro im hI i _
  obtain ⟨hh, hm, ⟨hg, hu⟩, hb, ⟨hc, hs, h5, h4⟩, hr, hn⟩ := hB im hI
  obtain ⟨w1, w2⟩ := hW im hI
  obtain ⟨-, hw2, -⟩ := c_layWalk (d := 0) (im := im) (Q := fun _ _ => True) hu
  refine (c_walk (d := 97) hh rfl).mpr ⟨_, rfl, (c_walkM (d := 95) hu).mpr ⟨?_, hS im _ hI⟩⟩
  have e : (if 0 ≤ i ∧ i ≤ (waM im).2 - 1 then (waM im).1 i else -1) = wka (im (nowT (im 1 1) + 3)) (im (nowT (im 1 1)) 4) i := by
    unfold wka
    by_cases c : 0 ≤ i ∧ i ≤ (waM im).2 - 1
    · rw [if_pos c, if_pos (show 0 ≤ i ∧ i < im (nowT (im 1 1)) 4 ∧ i < 20 by omega), w2 i c.1 (by omega)]
    · rw [if_neg c, if_neg (by omega)]
  rw [e]
end SB
