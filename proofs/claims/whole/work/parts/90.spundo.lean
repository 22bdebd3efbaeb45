/-! CLASS AND REFERENCE: the steps undo and redo -/
section SV
variable {im : zM} {G : (Int → Int) → Prop}
theorem sp_undo (hG : GOK G) : Sp0 99 (InvH G) 131 266 := by
  intro im hI
  have hh := hI.1
  have hm := hI.2.1
  have e1 := hI.2.2.1.1
  by_cases c : im 1 2 = 0
  · refine (c_undo (d := 98) hh).mpr ?_
    rw [if_pos c]
    refine ⟨0, rfl, (c_undoM (d := 97) hm.1 hm.2).mpr ?_⟩
    rw [if_pos (by omega)]
    exact ⟨rfl, hI⟩
  · refine (c_undo (d := 98) hh).mpr ?_
    rw [if_neg c]
    have x171 : setc im 1 (ups (ups (ups (im 1) 1 ((im 1 1 + 21 - 1) % 21)) 2 (im 1 2 - 1)) 3 (im 1 3 + 1)) 171 = im 171 := setc_ne _ _ (by omega)
    refine ⟨1, rfl, (c_undoM (d := 97) (by rw [x171]; exact hm.1) (by rw [x171]; exact hm.2)).mpr ?_⟩
    rw [if_neg (by rw [x171]; omega)]
    refine ⟨rfl, InvH_undo hG hI c (fun p h0 h1 => ?_) ⟨?_, ?_, ?_⟩ ⟨?_, ?_⟩ ?_ ?_⟩
    · unfold undM swM
      rw [setc_ne _ _ (by omega), setc_ne _ _ (by omega), setc_ne _ _ (by omega), setc_ne _ _ (by omega)]
    · unfold undM swM
      rw [setc_ne _ _ (by omega), setc_ne _ _ (by omega), setc_ne _ _ (by omega), setc_at, ups_ne _ _ (by omega), ups_ne _ _ (by omega), ups_at]
    · unfold undM swM
      rw [setc_ne _ _ (by omega), setc_ne _ _ (by omega), setc_ne _ _ (by omega), setc_at, ups_ne _ _ (by omega), ups_at]
    · unfold undM swM
      rw [setc_ne _ _ (by omega), setc_ne _ _ (by omega), setc_ne _ _ (by omega), setc_at, ups_at]
    · unfold undM swM
      rw [setc_ne _ _ (by omega), setc_ne _ _ (by omega), setc_at, ups_ne _ _ (by omega), ups_at, x171]
    · unfold undM swM
      rw [setc_ne _ _ (by omega), setc_ne _ _ (by omega), setc_at, ups_at, x171]
    · unfold undM swM
      rw [setc_ne _ _ (by omega), setc_at, setc_ne _ _ (by omega), setc_ne _ _ (by omega), setc_ne _ _ (by omega), setc_ne _ _ (by omega), x171]
    · unfold undM swM
      rw [setc_at, setc_ne _ _ (by omega), setc_ne _ _ (by omega), setc_ne _ _ (by omega), setc_ne _ _ (by omega), x171]
end SV
