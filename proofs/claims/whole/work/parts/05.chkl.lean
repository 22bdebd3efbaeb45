set_option maxRecDepth 100000 in
theorem zck_r10 : (List.range 24).all (fun k => zckm (250 + k)) = true := by decide +kernel
def zckb (m : Nat) (q : Int × List Instr) : Bool := decide (0 ≤ q.1) && zck (zow m) (zini m) (zby m) q.1.toNat q.2
set_option maxRecDepth 100000 in
theorem zck_l0 : ((zbl 274).take 12).all (zckb 274) = true := by decide +kernel
set_option maxRecDepth 100000 in
theorem zck_l1 : (((zbl 274).drop 12).take 3).all (zckb 274) = true := by decide +kernel
set_option maxRecDepth 100000 in
theorem zck_l2 : ((((zbl 274).drop 12).drop 3).take 3).all (zckb 274) = true := by decide +kernel
set_option maxRecDepth 100000 in
theorem zck_l3 : (((((zbl 274).drop 12).drop 3).drop 3).take 3).all (zckb 274) = true := by decide +kernel
set_option maxRecDepth 100000 in
theorem zck_l4 : ((((((zbl 274).drop 12).drop 3).drop 3).drop 3).take 3).all (zckb 274) = true := by decide +kernel
set_option maxRecDepth 100000 in
theorem zck_l5 : (((((((zbl 274).drop 12).drop 3).drop 3).drop 3).drop 3).take 3).all (zckb 274) = true := by decide +kernel
set_option maxRecDepth 100000 in
theorem zck_l6 : ((((((((zbl 274).drop 12).drop 3).drop 3).drop 3).drop 3).drop 3).take 3).all (zckb 274) = true := by decide +kernel
set_option maxRecDepth 100000 in
theorem zck_l7 : (((((((((zbl 274).drop 12).drop 3).drop 3).drop 3).drop 3).drop 3).drop 3).take 3).all (zckb 274) = true := by decide +kernel
set_option maxRecDepth 100000 in
theorem zck_l8 : ((((((((((zbl 274).drop 12).drop 3).drop 3).drop 3).drop 3).drop 3).drop 3).drop 3).take 3).all (zckb 274) = true := by decide +kernel
set_option maxRecDepth 100000 in
theorem zck_l9 : (((((((((((zbl 274).drop 12).drop 3).drop 3).drop 3).drop 3).drop 3).drop 3).drop 3).drop 3).take 3).all (zckb 274) = true := by decide +kernel
set_option maxRecDepth 100000 in
theorem zck_l10 : ((((((((((((zbl 274).drop 12).drop 3).drop 3).drop 3).drop 3).drop 3).drop 3).drop 3).drop 3).drop 3).take 3).all (zckb 274) = true := by decide +kernel
set_option maxRecDepth 100000 in
theorem zck_l11 : ((((((((((((zbl 274).drop 12).drop 3).drop 3).drop 3).drop 3).drop 3).drop 3).drop 3).drop 3).drop 3).drop 3).all (zckb 274) = true := by decide +kernel
theorem zck_law : zckm 274 = true := by
  show (zbl 274).all (zckb 274) = true
  rw [← List.take_append_drop 12 (zbl 274), List.all_append, zck_l0, Bool.true_and]
  rw [← List.take_append_drop 3 ((zbl 274).drop 12), List.all_append, zck_l1, Bool.true_and]
  rw [← List.take_append_drop 3 (((zbl 274).drop 12).drop 3), List.all_append, zck_l2, Bool.true_and]
  rw [← List.take_append_drop 3 ((((zbl 274).drop 12).drop 3).drop 3), List.all_append, zck_l3, Bool.true_and]
  rw [← List.take_append_drop 3 (((((zbl 274).drop 12).drop 3).drop 3).drop 3), List.all_append, zck_l4, Bool.true_and]
  rw [← List.take_append_drop 3 ((((((zbl 274).drop 12).drop 3).drop 3).drop 3).drop 3), List.all_append, zck_l5, Bool.true_and]
  rw [← List.take_append_drop 3 (((((((zbl 274).drop 12).drop 3).drop 3).drop 3).drop 3).drop 3), List.all_append, zck_l6, Bool.true_and]
  rw [← List.take_append_drop 3 ((((((((zbl 274).drop 12).drop 3).drop 3).drop 3).drop 3).drop 3).drop 3), List.all_append, zck_l7, Bool.true_and]
  rw [← List.take_append_drop 3 (((((((((zbl 274).drop 12).drop 3).drop 3).drop 3).drop 3).drop 3).drop 3).drop 3), List.all_append, zck_l8, Bool.true_and]
  rw [← List.take_append_drop 3 ((((((((((zbl 274).drop 12).drop 3).drop 3).drop 3).drop 3).drop 3).drop 3).drop 3).drop 3), List.all_append, zck_l9, Bool.true_and]
  rw [← List.take_append_drop 3 (((((((((((zbl 274).drop 12).drop 3).drop 3).drop 3).drop 3).drop 3).drop 3).drop 3).drop 3).drop 3), List.all_append, zck_l10, Bool.true_and]
  exact zck_l11
theorem zck_all (m : Nat) (h : m < 275) : zckm m = true := by
  by_cases h0 : m < 25
  · have h2 := List.all_eq_true.mp zck_r0 (m - 0) (List.mem_range.mpr (by omega))
    rwa [show 0 + (m - 0) = m by omega] at h2
  by_cases h1 : m < 50
  · have h2 := List.all_eq_true.mp zck_r1 (m - 25) (List.mem_range.mpr (by omega))
    rwa [show 25 + (m - 25) = m by omega] at h2
  by_cases h2 : m < 75
  · have h2 := List.all_eq_true.mp zck_r2 (m - 50) (List.mem_range.mpr (by omega))
    rwa [show 50 + (m - 50) = m by omega] at h2
  by_cases h3 : m < 100
  · have h2 := List.all_eq_true.mp zck_r3 (m - 75) (List.mem_range.mpr (by omega))
    rwa [show 75 + (m - 75) = m by omega] at h2
  by_cases h4 : m < 125
  · have h2 := List.all_eq_true.mp zck_r4 (m - 100) (List.mem_range.mpr (by omega))
    rwa [show 100 + (m - 100) = m by omega] at h2
  by_cases h5 : m < 150
  · have h2 := List.all_eq_true.mp zck_r5 (m - 125) (List.mem_range.mpr (by omega))
    rwa [show 125 + (m - 125) = m by omega] at h2
  by_cases h6 : m < 175
  · have h2 := List.all_eq_true.mp zck_r6 (m - 150) (List.mem_range.mpr (by omega))
    rwa [show 150 + (m - 150) = m by omega] at h2
  by_cases h7 : m < 200
  · have h2 := List.all_eq_true.mp zck_r7 (m - 175) (List.mem_range.mpr (by omega))
    rwa [show 175 + (m - 175) = m by omega] at h2
  by_cases h8 : m < 225
  · have h2 := List.all_eq_true.mp zck_r8 (m - 200) (List.mem_range.mpr (by omega))
    rwa [show 200 + (m - 200) = m by omega] at h2
  by_cases h9 : m < 250
  · have h2 := List.all_eq_true.mp zck_r9 (m - 225) (List.mem_range.mpr (by omega))
    rwa [show 225 + (m - 225) = m by omega] at h2
  by_cases h10 : m < 274
  · have h2 := List.all_eq_true.mp zck_r10 (m - 250) (List.mem_range.mpr (by omega))
    rwa [show 250 + (m - 250) = m by omega] at h2
  have h2 : m = 274 := by omega
  rw [h2]
  exact zck_law
