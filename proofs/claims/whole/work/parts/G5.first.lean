/-! THE FIRST STATE is good -/
section GF0
variable {c A : Int → Int} {e f : Int}
set_option maxRecDepth 100000 in
theorem im0_scr : (List.range 160).all (fun j => decide (im0 176 j = 0)) = true := by decide +kernel
set_option maxRecDepth 100000 in
theorem im0_scr2 : (List.range 3).all (fun j => decide (im0 163 j = 0)) = true := by decide +kernel
set_option maxRecDepth 100000 in
theorem im0_scr3 : (List.range 3).all (fun j => decide (im0 184 j = 0)) = true := by decide +kernel
theorem all_rg {p : Int → Prop} {q : Nat → Bool} {n : Nat} (h : (List.range n).all q = true) (hq : ∀ j : Nat, q j = true → p j) (j : Int) (j0 : 0 ≤ j) (j1 : j < n) : p j := by
  have := List.all_eq_true.mp h j.toNat (List.mem_range.mpr (by omega))
  have h2 := hq j.toNat this
  rw [show ((j.toNat : Nat) : Int) = j by omega] at h2
  exact h2
theorem im0_A (j : Int) (j0 : 0 ≤ j) (j1 : j < 483) : im0 172 j = if j = 460 ∨ j = 461 then 256 else 0 := all_rg (n := 483) (p := fun j => im0 172 j = if j = 460 ∨ j = 461 then 256 else 0) im0_all (fun j h => by
  have h := of_decide_eq_true h
  rw [h]
  by_cases q : j = 460 ∨ j = 461
  · rw [if_pos q, if_pos (by omega)]
  · rw [if_neg q, if_neg (by omega)]) j j0 j1
theorem im0_row (e0 : 0 ≤ e) (e1 : e < 20) (f0 : 0 ≤ f) (f1 : f < 23) : im0 172 (23 * e + f) = 0 := by
  rw [im0_A _ (by omega) (by omega), if_neg (by omega)]
theorem im0_c (e0 : 0 ≤ e) (e1 : e < 20) (f0 : 0 ≤ f) (f1 : f < 24) : gt (im0 4) e f = 0 := by
  unfold gt
  rw [if_pos ⟨e0, e1, f0, f1⟩]
  exact all_rg (n := 480) (p := fun j => im0 4 j = 0) im0_tree (fun j h => of_decide_eq_true h) _ (by omega) (by omega)
theorem im0_no (e : Int) : ¬ thM (im0 172) e := fun h => by
  have := h.2.2
  rw [im0_row h.1 (th_rg h).2 (by omega) (by omega)] at this
  omega
theorem im0_good : gGd (im0 172) := by
  have hn := im0_no
  have h460 : im0 172 460 = 256 := by rw [im0_A _ (by omega) (by omega), if_pos (Or.inl rfl)]
  have h461 : im0 172 461 = 256 := by rw [im0_A _ (by omega) (by omega), if_pos (Or.inr rfl)]
  have h462 : im0 172 462 = 0 := by rw [im0_A _ (by omega) (by omega), if_neg (by omega)]
  refine ⟨⟨fun e e0 e1 => ?_, fun e e0 e1 he => absurd ⟨e0, by omega, he⟩ (hn e), by rw [h462]; omega, fun k k0 k1 => ?_, fun e he => absurd he (hn e), fun e f he => absurd he (hn e), fun e he => absurd he.1 (hn e), fun e a he => absurd he (hn e), fun e k he => absurd he.1 (hn e)⟩, fun e he => absurd he.1 (hn e), fun e he => absurd he (hn e), fun e he => absurd he.1 (hn e), fun e f _ he => absurd he.1 (hn e), fun t k _ _ _ _ hi => absurd hi.1.1 (hn _), fun t o k _ _ _ _ _ _ _ hi => absurd hi.1.1 (hn _)⟩
  · have hz : ∀ f : Int, 0 ≤ f → f < 23 → im0 172 (23 * e + f) = 0 := fun f f0 f1 => im0_row e0 e1 f0 f1
    rw [hz 1 (by omega) (by omega), hz 2 (by omega) (by omega), hz 3 (by omega) (by omega), hz 4 (by omega) (by omega), hz 5 (by omega) (by omega), hz 15 (by omega) (by omega), hz 16 (by omega) (by omega), hz 17 (by omega) (by omega), hz 18 (by omega) (by omega)]
    refine ⟨by omega, by omega, by omega, by omega, by omega, fun a a0 a1 => ?_, by omega, by omega, by omega, by omega, fun k k0 k1 => ?_⟩
    · rw [hz _ (by omega) (by omega), hz _ (by omega) (by omega), hz _ (by omega) (by omega)]
      omega
    · rw [hz _ (by omega) (by omega), hz _ (by omega) (by omega)]
      omega
  · rcases (show k = 0 ∨ k = 1 by omega) with rfl | rfl
    · show 0 ≤ im0 172 460 ∧ im0 172 460 ≤ 1024
      omega
    · show 0 ≤ im0 172 461 ∧ im0 172 461 ≤ 1024
      omega
theorem im0_wk : (wkA (im0 172)).2 = 0 := by
  have h := wkA_bd (A := im0 172)
  have h2 := (cnt_zero (p := thB (im0 172)) 20 0 0).mpr (fun j _ _ => decide_eq_false (im0_no j))
  rw [wk_count] at h ⊢
  omega
theorem im0_GdT : GdT gGd im0 3 (im0 172) := by
  obtain ⟨s1, s2, s3, s4, s5, s6, s7, s8, s9, s10, s11, s12, s13⟩ := im0_some
  have h460 : im0 172 460 = 256 := by rw [im0_A _ (by omega) (by omega), if_pos (Or.inl rfl)]
  have h461 : im0 172 461 = 256 := by rw [im0_A _ (by omega) (by omega), if_pos (Or.inr rfl)]
  have h462 : im0 172 462 = 0 := by rw [im0_A _ (by omega) (by omega), if_neg (by omega)]
  refine ⟨⟨fun e e0 e1 => ?_, fun k k0 k1 => ?_, ?_, fun i i0 i1 => ?_, ?_, fun i i0 i1 => ?_⟩, im0_good, fun e e0 e1 => ?_⟩
  · rw [im0_row e0 e1 (by omega) (by omega), im0_row e0 e1 (by omega) (by omega), im0_row e0 e1 (by omega) (by omega)]
    refine ⟨Or.inl rfl, Or.inl rfl, fun q => by omega, fun _ => ⟨im0_c e0 e1 (by omega) (by omega), ?_⟩⟩
    show gt (im0 4) e 3 ≠ 1
    rw [im0_c e0 e1 (by omega) (by omega)]
    omega
  · rcases (show k = 0 ∨ k = 1 by omega) with rfl | rfl
    · show im0 5 0 = im0 172 460
      omega
    · show im0 5 1 = im0 172 461
      omega
  · rw [h462]
    exact s2
  · rw [h462] at i1
    omega
  · rw [im0_wk]
    exact s1
  · rw [im0_wk] at i1
    omega
  · have hz : ∀ f : Int, 0 ≤ f → f < 24 → gt (im0 (3 + 1)) e f = 0 := fun f f0 f1 => im0_c e0 e1 f0 f1
    rw [hz 6 (by omega) (by omega), hz 4 (by omega) (by omega), hz 5 (by omega) (by omega), hz 2 (by omega) (by omega), hz 0 (by omega) (by omega), hz 3 (by omega) (by omega)]
    refine ⟨by omega, by omega, by omega, by omega, fun _ => ⟨rfl, rfl⟩, fun a a0 a1 => ?_, fun k k0 k1 => ?_⟩
    · rw [hz _ (by omega) (by omega), hz _ (by omega) (by omega)]
      omega
    · rw [hz _ (by omega) (by omega), hz _ (by omega) (by omega)]
      omega
theorem im0_Inv : Inv gGd im0 := by
  obtain ⟨s1, s2, s3, s4, s5, s6, s7, s8, s9, s10, s11, s12, s13⟩ := im0_some
  have hn : nowT (im0 1 1) = 3 := by
    rw [s5]
    rfl
  refine ⟨⟨⟨by omega, by omega, by omega⟩, ⟨by omega, by omega⟩, ⟨by omega, by omega⟩, by omega, ?_, fun j j0 j1 => by omega, fun j j0 j1 => by omega⟩, fun b b0 b1 => ?_, ⟨fun j j0 j1 => ?_, fun j j0 j1 => ?_, fun j j0 j1 => ?_⟩⟩
  · rw [hn]
    exact im0_GdT
  · rcases (show b = 0 ∨ b = 1 by omega) with rfl | rfl
    · exact ⟨by omega, fun q => absurd s8 q⟩
    · exact ⟨by omega, fun q => absurd s9 q⟩
  · have := all_rg (n := 3) (p := fun j => im0 163 j = 0) im0_scr2 (fun j h => of_decide_eq_true h) j j0 (by omega)
    omega
  · have := all_rg (n := 3) (p := fun j => im0 184 j = 0) im0_scr3 (fun j h => of_decide_eq_true h) j j0 (by omega)
    omega
  · have := all_rg (n := 160) (p := fun j => im0 176 j = 0) im0_scr (fun j h => of_decide_eq_true h) j j0 (by omega)
    omega
theorem step_all : StepAll 99 (Inv gGd) := ⟨sp_endpoint, sp_bridge, sp_aperture, sp_unplug, sp_shift, sp_space, sp_power, sp_refused (fun _ h => Inv_Bas h), sp_start, sp_stop, sp_rebalance, sp_moves, sp_device (fun _ h => Inv_Bas h), sp_bar (fun _ h => Inv_Bas h), sp_window (fun _ h => Inv_Bas h), sp_bus (fun _ h => Inv_Bas h), sp_find, sp_walkG, sp_owner, sp_way, sp_peer, sp_fill, sp_blame, sp_chance, sp_wire, sp_hops, sp_common, sp_need, sp_align, sp_gap, sp_room, sp_spare, sp_place, sp_greediest, sp_would, sp_units, sp_law, sp_undoG gGd_ok, sp_redoG gGd_ok, sp_image gGd_ok, sp_back gGd_ok, sp_about (fun _ h => Inv_Bas h) (fun _ h => Inv_Wk h) (fun _ h e => by
    have hC := Inv_Cls h
    by_cases q : 0 ≤ e ∧ e < 20
    · have := (hC e q.1 q.2).1
      omega
    · rw [gt_out q]
      omega)⟩
theorem z_goal : zGoal := zGoal_of step_all im0_Inv
end GF0
