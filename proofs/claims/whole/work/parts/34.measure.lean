/-! THE CLASS'S POWER-UP: measuring -/
section PM
variable {d s t u o : Nat} {im : zM} {Q : Option zV → zM → Prop} {a b v dv kd sl i j k : Int}
theorem zT_lt (ht : zT t) : t + 5 ≤ 132 ∨ 138 ≤ t := zTS_apart ht zSh_132
def mt2 (im : zM) (t : Nat) (c : Int → Int) (z : zSS) : zM := sth (setc im (t + 1) c) 132 z
noncomputable def ordC (c w : Int → Int) (n a k : Int) (z : zSS) : zSS := ordS (gatS c w n a k z)
noncomputable def ndS (c w : Int → Int) (n a k : Int) (z : zSS) : Int × zSS := ((layS (ordC c w n a k z)).1, setB (ordC c w n a k z) (layS (ordC c w n a k z)).2)
theorem galS_setB (z : zSS) (b : Int → Int) : galS (setB z b) = galS z := rfl
noncomputable def msf (w : Int → Int) (n k : Int) (i : Int) (y : (Int → Int) × zSS) : (Int → Int) × zSS :=
  if gt y.1 (wka w n i) 0 = 2 ∧ gt y.1 (wka w n i) 3 = 1 then
    (ups (ups y.1 (wka w n i * 24 + (20 + k)) (rup ((ndS y.1 w n (wka w n i) k y.2).1 + gt y.1 (wka w n i) 5) 16)) (wka w n i * 24 + (22 + k)) (max 16 (galS (ndS y.1 w n (wka w n i) k y.2).2)), (ndS y.1 w n (wka w n i) k y.2).2)
  else y
noncomputable def msd (w : Int → Int) (n k : Int) : Nat → (Int → Int) × zSS → (Int → Int) × zSS
  | 0, y => y
  | m + 1, y => msd w n k m (msf w n k (m : Nat) y)
def MsOK (w : Int → Int) (n k : Int) : Nat → (Int → Int) × zSS → Prop
  | 0, y => TB y.1 ∧ TW y.1 k
  | m + 1, y => (TB y.1 ∧ TW y.1 k ∧ ∀ e, 0 ≤ gt y.1 e 5 + 1 ∧ gt y.1 e 5 ≤ 1048576) ∧ MsOK w n k m (msf w n k (m : Nat) y)
theorem layS_le {z : zSS} (h : SBd z) : 0 ≤ (layS z).1 ∧ (layS z).1 ≤ 27 * 34603008 := by
  have := lp_keep' (P := fun y : Int × (Int → Int) => True) (f := lyf z.2.2.1 z.2.2.2.1) (N := 27) (fun _ _ _ _ _ => trivial) 0 0 (0, z.2.2.2.2.1) (by omega) (by omega) trivial
  have main : ∀ (n : Nat) (i : Int) (y : Int × (Int → Int)), 0 ≤ i → i + n ≤ min z.2.2.2.2.2 27 → 0 ≤ y.1 ∧ y.1 ≤ i * 34603008 → 0 ≤ (lp (lyf z.2.2.1 z.2.2.2.1) n i y).1 ∧ (lp (lyf z.2.2.1 z.2.2.2.1) n i y).1 ≤ (i + n) * 34603008 := by
    intro n
    induction n with
    | zero =>
      intro i y h0 h1 hy
      simp only [lp]
      omega
    | succ n ih =>
      intro i y h0 h1 hy
      have b1 := (h i h0 (by omega) (by omega)).1
      have b2 := (h i h0 (by omega) (by omega)).2
      have b3 := rup_le (v := y.1) (st := z.2.2.1 i) (by omega) (by omega)
      have := ih (i + 1) (lyf z.2.2.1 z.2.2.2.1 i y) (by omega) (by omega) (by simp only [lyf]; omega)
      simp only [lp]
      omega
  unfold layS
  by_cases e : 0 ≤ min z.2.2.2.2.2 27
  · have := main (min z.2.2.2.2.2 27).toNat 0 (0, z.2.2.2.2.1) (by omega) (by omega) (by simp only []; omega)
    omega
  · rw [show (min z.2.2.2.2.2 27).toNat = 0 by omega]
    simp only [lp]
    omega
end PM
