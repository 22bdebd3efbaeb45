/-! THE REFERENCE: the row that moves -/
section MR3
variable {d : Nat} {im : zM} {Q : Option zV → zM → Prop} {a b v dv kd sl i j k f e bu t : Int}
def ltT (A : Int → Int) (dv bu k : Int) (r : zRb) : Int × ((Int → Int) × (Int → Int) × (Int → Int)) := ltI A r.2.2.1 r.2.2.2.1 r.2.2.2.2.2.2 dv bu k 7 ((lp (ltV A r.2.2.1 r.2.2.2.1) r.2.2.2.2.2.2.toNat 0 (laT A r.1 bu k, r.2.2.2.2.1)).1, ldW A dv k r.2.1, (lp (ltV A r.2.2.1 r.2.2.2.1) r.2.2.2.2.2.2.toNat 0 (laT A r.1 bu k, r.2.2.2.2.1)).2)
def ltR (A : Int → Int) (dv bu k : Int) (r : zRb) : Int × zRb := ((ltT A dv bu k r).1, rTWV r (ltT A dv bu k r).2)
theorem c_layTried {X : zM} {A : Int → Int} (hX : X 172 = A) (hg : MG A) (hd : 0 ≤ dv ∧ dv < 20) (hz : MZ A dv) (hb : 0 ≤ bu ∧ bu ≤ 20) (hk : 0 ≤ k ∧ k < 2) (hw : BwM A bu k) (hp : TkP A bu k) {r : zRb} (hN : 0 ≤ r.2.2.2.2.2.2 ∧ r.2.2.2.2.2.2 ≤ 3) (hr : RoK r.2.2.1 r.2.2.2.1 r.2.2.2.2.2.2) (hro : RoB A r.2.2.1 r.2.2.2.1 r.2.2.2.2.2.2) : (CallP (d + 4) 216 [.inr (some 171), .inl dv, .inl bu, .inl k] (rbm X r) Q ↔ Q (some (.inl (ltR A dv bu k r).1)) (rbm X (ltR A dv bu k r).2)) ∧ ((ltR A dv bu k r).1 = 1 ∨ (ltR A dv bu k r).1 = 0) := by
  have hl := fun Q => (c_layTaken (d := d) (im := rbm X r) (bu := bu) (k := k) (Q := Q) (by rw [rbm_A, hX]; exact hg) hk hb (by rw [rbm_A, hX]; exact hp)).1
  obtain ⟨-, hl2⟩ := c_layTaken (d := d) (im := rbm X r) (bu := bu) (k := k) (Q := fun _ _ => True) (by rw [rbm_A, hX]; exact hg) hk hb (by rw [rbm_A, hX]; exact hp)
  rw [rbm_A, hX, rbm_T] at hl2
  simp only [rbm_A, hX, rbm_T, rbm_sT] at hl
  have hm := MG_many hg hd
  obtain ⟨x4, hW⟩ := l_ldW (d := d) (bu := bu) (k := k) hX hg hd (x5 := .inr none) (x6 := .inr none) (x7 := .inr none) (x8 := .inr none) (A (23 * dv + 5)).toNat 0 (laT A r.1 bu k, r.2) (by omega) (by omega)
  have hV := l_ltV (d := d) (dv := dv) (bu := bu) (k := k) hX hN (x5 := .inr none) (x6 := .inr none) (x7 := .inr none) (x8 := .inr none) r.2.2.2.2.2.2.toNat 0 (rW (laT A r.1 bu k, r.2) (ldW A dv k r.2.1)) (by omega) (by omega) rfl hr hro (fun u q0 q1 => by have := hl2 u q0 q1; dsimp only; omega)
  have hq1 := muW_bd (ldW A dv k r.2.1)
  have hq2 := muW_bd (lp (ltV A r.2.2.1 r.2.2.2.1) r.2.2.2.2.2.2.toNat 0 (laT A r.1 bu k, r.2.2.2.2.1)).2
  have hI := fun x6 x7 x8 => l_ltI (d := d) hX hg hd hz hb hk hw (nm := r.2.2.2.2.2.1) hN hr hro 7 (lp (ltV A r.2.2.1 r.2.2.2.1) r.2.2.2.2.2.2.toNat 0 (laT A r.1 bu k, r.2.2.2.2.1)).1 (ldW A dv k r.2.1) (lp (ltV A r.2.2.1 r.2.2.2.1) r.2.2.2.2.2.2.toNat 0 (laT A r.1 bu k, r.2.2.2.2.1)).2 x6 x7 x8 (by omega) (by omega) (fun u q0 q1 => by have := hV.1 u q0 q1; dsimp only at this; omega)
  refine ⟨?_, (hI (.inr none) (.inr none) (.inr none)).1⟩
  have h1 := hW Q
  have h2 := hV.2 Q
  have h3 := (hI (.inr none) (.inr none) (.inr none)).2 Q
  have hno := fun (r : zRb) Q => c_nextOwn (d := d + 2) (im := rbm X r) (dv := dv) (k := k) (Q := Q) (by rw [rbm_A, hX]; exact hg) hd
  simp only [rbm_A, hX, rbm_W] at hno
  have hnt := fun Q => c_nextTried (d := d + 1) (X := X) hX (r := rTV (rW (laT A r.1 bu k, r.2) (ldW A dv k r.2.1)) (lp (ltV A r.2.2.1 r.2.2.2.1) r.2.2.2.2.2.2.toNat 0 (laT A r.1 bu k, r.2.2.2.2.1))) (Q := Q) hN hr
  simp (disch := omega) only [en_216, pg_216_0, cw_195, wp_iload, wp_aload, wp_istore, wp_astore, wp_iinc, wp_iconst, wp_dup, wp_dup2, wp_pop, wp_iadd, wp_isub, wp_imul, wp_idiv, wp_irem, wp_ineg, wp_iand, wp_ior, wp_ixor, wp_ishl, wp_ishr, wp_getI, wp_putI, wp_getR, wp_goto, wp_goto_w, wq_if_eq, wq_if_ne, wq_if_lt, wq_if_ge, wq_if_gt, wq_if_le, wq_icmp_eq, wq_icmp_ne, wq_icmp_lt, wq_icmp_ge, wq_icmp_gt, wq_icmp_le, wp_max, wp_min, kI_inl, kR_some, kN_inl, kO_some, KT_none, KT_some, List.length_cons, List.length_nil, Nat.reduceAdd, Nat.reduceLT, Nat.reduceLeDiff, Nat.reduceMod, Nat.reduceDiv, true_and, and_true, Int.reduceLE, Int.reduceNeg, Int.reduceLT, Int.cast_ofNat_Int, Nat.zero_le, zI, Int.reduceAdd, Int.reduceSub, Int.reduceMul, not_true_eq_false, not_false_eq_true, false_implies, true_implies, i01_0, i01_1, ite_not, ↓reduceIte, zget_0, zget_1, zget_2, zget_3, zget_4, zget_5, zget_6, zget_7, zget_8, zget_9, zget_10, zset_0, zset_1, zset_2, zset_3, zset_4, zset_5, zset_6, zset_7, zset_8, zset_9, zset_10, kd_171, rf_171_0, rf_171_1, rf_171_3, rf_171_4, rf_171_5, rf_171_6, rf_171_7, rf_171_8, rf_171_10, rf_171_13, rf_171_14, rf_171_15, rf_171_16, rf_171_17, rf_171_20, rf_171_21, rf_171_27, rf_171_28, rf_171_29, rf_171_30, rf_171_31, hl]
  refine h1.trans ?_
  rw [pg_216_48]
  simp (disch := omega) only [wp_iload, wp_aload, wp_istore, wp_astore, wp_iinc, wp_iconst, wp_dup, wp_dup2, wp_pop, wp_iadd, wp_isub, wp_imul, wp_idiv, wp_irem, wp_ineg, wp_iand, wp_ior, wp_ixor, wp_ishl, wp_ishr, wp_getI, wp_putI, wp_getR, wp_goto, wp_goto_w, wq_if_eq, wq_if_ne, wq_if_lt, wq_if_ge, wq_if_gt, wq_if_le, wq_icmp_eq, wq_icmp_ne, wq_icmp_lt, wq_icmp_ge, wq_icmp_gt, wq_icmp_le, wp_max, wp_min, kI_inl, kR_some, kN_inl, kO_some, KT_none, KT_some, List.length_cons, List.length_nil, Nat.reduceAdd, Nat.reduceLT, Nat.reduceLeDiff, Nat.reduceMod, Nat.reduceDiv, true_and, and_true, Int.reduceLE, Int.reduceNeg, Int.reduceLT, Int.cast_ofNat_Int, Nat.zero_le, zI, Int.reduceAdd, Int.reduceSub, Int.reduceMul, not_true_eq_false, not_false_eq_true, false_implies, true_implies, i01_0, i01_1, ite_not, ↓reduceIte, zget_0, zget_1, zget_2, zget_3, zget_4, zget_5, zget_6, zget_7, zget_8, zget_9, zget_10, zset_0, zset_1, zset_2, zset_3, zset_4, zset_5, zset_6, zset_7, zset_8, zset_9, zset_10]
  refine h2.trans ?_
  rw [pg_216_111]
  simp (disch := omega) only [cw_198, cw_215, wp_iload, wp_aload, wp_istore, wp_astore, wp_iinc, wp_iconst, wp_dup, wp_dup2, wp_pop, wp_iadd, wp_isub, wp_imul, wp_idiv, wp_irem, wp_ineg, wp_iand, wp_ior, wp_ixor, wp_ishl, wp_ishr, wp_getI, wp_putI, wp_getR, wp_goto, wp_goto_w, wq_if_eq, wq_if_ne, wq_if_lt, wq_if_ge, wq_if_gt, wq_if_le, wq_icmp_eq, wq_icmp_ne, wq_icmp_lt, wq_icmp_ge, wq_icmp_gt, wq_icmp_le, wp_max, wp_min, kI_inl, kR_some, kN_inl, kO_some, KT_none, KT_some, List.length_cons, List.length_nil, Nat.reduceAdd, Nat.reduceLT, Nat.reduceLeDiff, Nat.reduceMod, Nat.reduceDiv, true_and, and_true, Int.reduceLE, Int.reduceNeg, Int.reduceLT, Int.cast_ofNat_Int, Nat.zero_le, zI, Int.reduceAdd, Int.reduceSub, Int.reduceMul, not_true_eq_false, not_false_eq_true, false_implies, true_implies, i01_0, i01_1, ite_not, ↓reduceIte, zget_0, zget_1, zget_2, zget_3, zget_4, zget_5, zget_6, zget_7, zget_8, zget_9, zget_10, zset_0, zset_1, zset_2, zset_3, zset_4, zset_5, zset_6, zset_7, zset_8, zset_9, zset_10, kd_171, rf_171_0, rf_171_1, rf_171_3, rf_171_4, rf_171_5, rf_171_6, rf_171_7, rf_171_8, rf_171_10, rf_171_13, rf_171_14, rf_171_15, rf_171_16, rf_171_17, rf_171_20, rf_171_21, rf_171_27, rf_171_28, rf_171_29, rf_171_30, rf_171_31, hno, hnt]
  exact h3
def tri (x : Int) : Int := x * (x + 1) / 2
theorem tri_step (x : Int) : tri x = tri (x - 1) + x := by
  unfold tri
  have e : x * (x + 1) = (x - 1) * (x - 1 + 1) + x * 2 := by
    rw [show x - 1 + 1 = x by omega, Int.mul_add, Int.sub_mul]
    omega
  rw [e, Int.add_mul_ediv_right _ _ (by omega)]
theorem tri_0 : tri 0 = 0 := by decide
theorem tri_bd : ∀ n : Nat, n ≤ 22 → 0 ≤ tri n ∧ tri n ≤ 253 := by decide
theorem tri_bd' {x : Int} (h : 0 ≤ x ∧ x ≤ 22) : 0 ≤ tri x ∧ tri x ≤ 253 := by
  have := tri_bd x.toNat (by omega)
  rw [show ((x.toNat : Nat) : Int) = x by omega] at this
  exact this
theorem tri_20 : ∀ n : Nat, n ≤ 20 → tri n ≤ 210 := by decide
theorem tri_20' {x : Int} (h : 0 ≤ x ∧ x ≤ 20) : tri x ≤ 210 := by
  have := tri_20 x.toNat (by omega)
  rw [show ((x.toNat : Nat) : Int) = x by omega] at this
  exact this
/-- how many rows come after -/
def poR (nm nt : Int) (R : Int → Int) : Int := if nt = 3 then (nm - 3 - R 0) * 253 + tri (nm - 2 - R 1) + (nm - 1 - R 2) else if nt = 2 then tri (nm - 2 - R 0) + (nm - 1 - R 1) else if nt = 1 then nm - 1 - R 0 else 0
/-- a row that goes up -/
def RwV (nm nt : Int) (R : Int → Int) : Prop := (∀ j : Int, 0 ≤ j → j < nt → 0 ≤ R j ∧ R j ≤ nm - nt + j) ∧ ∀ j : Int, 0 ≤ j → j < 3 → 0 ≤ R j ∧ R j ≤ 100
theorem ups_val (c : Int → Int) (i v j : Int) : ups c i v j = if j = i then v else c j := rfl
theorem nrJ_step {nm nt : Int} {R : Int → Int} (hn : 0 ≤ nt ∧ nt ≤ 3) (hm : nt ≤ nm ∧ nm ≤ 24) (hv : RwV nm nt R) : ((nrJ nt nm nt.toNat R).1 = 0 ∨ (nrJ nt nm nt.toNat R).1 = 1) ∧ RwV nm nt (nrJ nt nm nt.toNat R).2 ∧ ((nrJ nt nm nt.toNat R).1 = 1 → 0 ≤ poR nm nt (nrJ nt nm nt.toNat R).2 ∧ poR nm nt (nrJ nt nm nt.toNat R).2 < poR nm nt R) := by
  have mkV : ∀ (R' : Int → Int), (∀ j : Int, j = 0 ∨ j = 1 ∨ j = 2 → (j < nt → 0 ≤ R' j ∧ R' j ≤ nm - nt + j) ∧ (0 ≤ R' j ∧ R' j ≤ 100)) → RwV nm nt R' := by
    intro R' h
    exact ⟨fun j h0 h1 => (h j (by omega)).1 h1, fun j h0 h1 => (h j (by omega)).2⟩
  have v0 := hv.2 0 (by omega) (by omega)
  have v1 := hv.2 1 (by omega) (by omega)
  have v2 := hv.2 2 (by omega) (by omega)
  rcases (show nt = 0 ∨ nt = 1 ∨ nt = 2 ∨ nt = 3 by omega) with rfl | rfl | rfl | rfl
  · exact ⟨Or.inl rfl, hv, fun h => by have h2 : (0 : Int) = 1 := h; omega⟩
  · have w0 := hv.1 0 (by omega) (by omega)
    show ((nrJ 1 nm 1 R).1 = 0 ∨ (nrJ 1 nm 1 R).1 = 1) ∧ RwV nm 1 (nrJ 1 nm 1 R).2 ∧ ((nrJ 1 nm 1 R).1 = 1 → 0 ≤ poR nm 1 (nrJ 1 nm 1 R).2 ∧ poR nm 1 (nrJ 1 nm 1 R).2 < poR nm 1 R)
    by_cases c : R 0 = nm - 1 + 0
    · have e : nrJ 1 nm 1 R = (0, R) := if_pos c
      rw [e]
      exact ⟨Or.inl rfl, hv, fun h => by have h2 : (0 : Int) = 1 := h; omega⟩
    · have e : nrJ 1 nm 1 R = (1, ups R 0 (R 0 + 1)) := if_neg c
      rw [e]
      refine ⟨Or.inr rfl, mkV _ (fun j hj => ?_), fun _ => ?_⟩
      · dsimp only
        rcases hj with rfl | rfl | rfl <;> (simp only [ups_val]; split <;> omega)
      · simp [poR, ups_val]
        omega
  · have w0 := hv.1 0 (by omega) (by omega)
    have w1 := hv.1 1 (by omega) (by omega)
    have t0 := tri_bd' (x := nm - 2 - R 0) (by omega)
    show ((nrJ 2 nm 2 R).1 = 0 ∨ (nrJ 2 nm 2 R).1 = 1) ∧ RwV nm 2 (nrJ 2 nm 2 R).2 ∧ ((nrJ 2 nm 2 R).1 = 1 → 0 ≤ poR nm 2 (nrJ 2 nm 2 R).2 ∧ poR nm 2 (nrJ 2 nm 2 R).2 < poR nm 2 R)
    by_cases c1 : R 1 = nm - 2 + 1
    · by_cases c : R 0 = nm - 2 + 0
      · have e : nrJ 2 nm 2 R = (0, R) := by
          show (if R 1 = nm - 2 + 1 then nrJ 2 nm 1 R else _) = _
          rw [if_pos c1]
          exact if_pos c
        rw [e]
        exact ⟨Or.inl rfl, hv, fun h => by have h2 : (0 : Int) = 1 := h; omega⟩
      · have e : nrJ 2 nm 2 R = (1, ups (ups R 0 (R 0 + 1)) 1 (ups R 0 (R 0 + 1) 0 + 1)) := by
          show (if R 1 = nm - 2 + 1 then nrJ 2 nm 1 R else _) = _
          rw [if_pos c1]
          exact if_neg c
        have ts := tri_step (nm - 2 - R 0)
        have t1 := tri_bd' (x := nm - 2 - R 0 - 1) (by omega)
        rw [e]
        refine ⟨Or.inr rfl, mkV _ (fun j hj => ?_), fun _ => ?_⟩
        · rcases hj with rfl | rfl | rfl <;> (simp only [ups_val]; simp; omega)
        · simp only [poR, ups_val]
          simp
          rw [show nm - 2 - (R 0 + 1) = nm - 2 - R 0 - 1 by omega]
          omega
    · have e : nrJ 2 nm 2 R = (1, ups R 1 (R 1 + 1)) := if_neg c1
      rw [e]
      refine ⟨Or.inr rfl, mkV _ (fun j hj => ?_), fun _ => ?_⟩
      · rcases hj with rfl | rfl | rfl <;> (simp only [ups_val]; simp; omega)
      · simp only [poR, ups_val]
        simp
        omega
  · have w0 := hv.1 0 (by omega) (by omega)
    have w1 := hv.1 1 (by omega) (by omega)
    have w2 := hv.1 2 (by omega) (by omega)
    have t0 := tri_bd' (x := nm - 2 - R 1) (by omega)
    show ((nrJ 3 nm 3 R).1 = 0 ∨ (nrJ 3 nm 3 R).1 = 1) ∧ RwV nm 3 (nrJ 3 nm 3 R).2 ∧ ((nrJ 3 nm 3 R).1 = 1 → 0 ≤ poR nm 3 (nrJ 3 nm 3 R).2 ∧ poR nm 3 (nrJ 3 nm 3 R).2 < poR nm 3 R)
    by_cases c2 : R 2 = nm - 3 + 2
    · by_cases c1 : R 1 = nm - 3 + 1
      · by_cases c : R 0 = nm - 3 + 0
        · have e : nrJ 3 nm 3 R = (0, R) := by
            show (if R 2 = nm - 3 + 2 then (if R 1 = nm - 3 + 1 then nrJ 3 nm 1 R else _) else _) = _
            rw [if_pos c2, if_pos c1]
            exact if_pos c
          rw [e]
          exact ⟨Or.inl rfl, hv, fun h => by have h2 : (0 : Int) = 1 := h; omega⟩
        · have e : nrJ 3 nm 3 R = (1, ups (ups (ups R 0 (R 0 + 1)) 1 (ups R 0 (R 0 + 1) 0 + 1)) 2 (ups (ups R 0 (R 0 + 1)) 1 (ups R 0 (R 0 + 1) 0 + 1) 1 + 1)) := by
            show (if R 2 = nm - 3 + 2 then (if R 1 = nm - 3 + 1 then nrJ 3 nm 1 R else _) else _) = _
            rw [if_pos c2, if_pos c1]
            exact if_neg c
          have t1 := tri_20' (x := nm - 2 - (R 0 + 1 + 1)) (by omega)
          have t2 := tri_bd' (x := nm - 2 - (R 0 + 1 + 1)) (by omega)
          rw [e]
          refine ⟨Or.inr rfl, mkV _ (fun j hj => ?_), fun _ => ?_⟩
          · rcases hj with rfl | rfl | rfl <;> (simp only [ups_val]; simp; omega)
          · simp only [poR, ups_val]
            simp
            omega
      · have e : nrJ 3 nm 3 R = (1, ups (ups R 1 (R 1 + 1)) 2 (ups R 1 (R 1 + 1) 1 + 1)) := by
          show (if R 2 = nm - 3 + 2 then (if R 1 = nm - 3 + 1 then nrJ 3 nm 1 R else _) else _) = _
          rw [if_pos c2, if_neg c1]
          rfl
        have ts := tri_step (nm - 2 - R 1)
        have t1 := tri_bd' (x := nm - 2 - R 1 - 1) (by omega)
        rw [e]
        refine ⟨Or.inr rfl, mkV _ (fun j hj => ?_), fun _ => ?_⟩
        · rcases hj with rfl | rfl | rfl <;> (simp only [ups_val]; simp; omega)
        · simp only [poR, ups_val]
          simp
          rw [show nm - 2 - (R 1 + 1) = nm - 2 - R 1 - 1 by omega]
          omega
    · have e : nrJ 3 nm 3 R = (1, ups R 2 (R 2 + 1)) := if_neg c2
      rw [e]
      refine ⟨Or.inr rfl, mkV _ (fun j hj => ?_), fun _ => ?_⟩
      · rcases hj with rfl | rfl | rfl <;> (simp only [ups_val]; simp; omega)
      · simp only [poR, ups_val]
        simp
        omega
theorem poR_bd {nm nt : Int} {R : Int → Int} (hn : 0 ≤ nt ∧ nt ≤ 3) (hm : nt ≤ nm ∧ nm ≤ 24) (hv : RwV nm nt R) : 0 ≤ poR nm nt R ∧ poR nm nt R < 10000 := by
  rcases (show nt = 0 ∨ nt = 1 ∨ nt = 2 ∨ nt = 3 by omega) with rfl | rfl | rfl | rfl
  · simp [poR]
  · have w0 := hv.1 0 (by omega) (by omega)
    simp [poR]
    omega
  · have w0 := hv.1 0 (by omega) (by omega)
    have w1 := hv.1 1 (by omega) (by omega)
    have t0 := tri_bd' (x := nm - 2 - R 0) (by omega)
    simp [poR]
    omega
  · have w0 := hv.1 0 (by omega) (by omega)
    have w1 := hv.1 1 (by omega) (by omega)
    have w2 := hv.1 2 (by omega) (by omega)
    have t0 := tri_bd' (x := nm - 2 - R 1) (by omega)
    simp [poR]
    omega
/-- things that may move are in order -/
def MoK (A M : Int → Int) (nm : Int) : Prop := ∀ i : Int, 0 ≤ i → i < nm → (0 ≤ M i ∧ M i < 60) ∧ (0 ≤ bsT A (M i) ∧ bsT A (M i) + szT A (M i) ≤ 1024) ∧ (1 ≤ szT A (M i) ∧ szT A (M i) ≤ 256)
theorem Ro_of {A M R : Int → Int} {nm nt : Int} (h : MoK A M nm) (hm : nm ≤ 24) (hv : RwV nm nt R) (hn : nt ≤ 3) : RoK M R nt ∧ RoB A M R nt := by
  refine ⟨fun i h0 h1 => ?_, fun i h0 h1 => ?_⟩
  · have := hv.1 i h0 h1
    have := h (R i) (by omega) (by omega)
    omega
  · have := hv.1 i h0 h1
    exact (h (R i) (by omega) (by omega)).2
def rtS (A : Int → Int) (dv bu k : Int) : Nat → zRb → Int × zRb
  | 0, r => (0, r)
  | m + 1, r => if (ltR A dv bu k r).1 = 1 then ltR A dv bu k r else if (nrJ r.2.2.2.2.2.2 r.2.2.2.2.2.1 r.2.2.2.2.2.2.toNat r.2.2.2.1).1 = 1 then rtS A dv bu k m (rR (ltR A dv bu k r).2 (nrJ r.2.2.2.2.2.2 r.2.2.2.2.2.1 r.2.2.2.2.2.2.toNat r.2.2.2.1).2) else (0, rR (ltR A dv bu k r).2 (nrJ r.2.2.2.2.2.2 r.2.2.2.2.2.1 r.2.2.2.2.2.2.toNat r.2.2.2.1).2)
/-- what stays between the rows -/
def RvI (M : Int → Int) (nm nt : Int) (r : zRb) : Prop := r.2.2.1 = M ∧ r.2.2.2.2.2.1 = nm ∧ r.2.2.2.2.2.2 = nt ∧ RwV nm nt r.2.2.2.1
theorem l_rt {X : zM} {A : Int → Int} (hX : X 172 = A) (hg : MG A) (hd : 0 ≤ dv ∧ dv < 20) (hz : MZ A dv) (hb : 0 ≤ bu ∧ bu ≤ 20) (hk : 0 ≤ k ∧ k < 2) (hw : BwM A bu k) (hp : TkP A bu k) {M : Int → Int} {nm nt : Int} (hn : 0 ≤ nt ∧ nt ≤ 3) (hm : nt ≤ nm ∧ nm ≤ 24) (hM : MoK A M nm) : ∀ (m : Nat) (r : zRb), RvI M nm nt r → poR nm nt r.2.2.2.1 < m → RvI M nm nt (rtS A dv bu k m r).2 ∧ ((rtS A dv bu k m r).1 = 1 ∨ (rtS A dv bu k m r).1 = 0) ∧ ((rtS A dv bu k m r).1 = 1 → ∀ Q, wp none (d + 5) 218 (zpg 218 23) [.inr (some 171), .inl dv, .inl bu, .inl k, .inl nt, .inl 1] [] (rbm X r) Q ↔ Q (some (.inl 1)) (rbm X (rtS A dv bu k m r).2)) ∧ ((rtS A dv bu k m r).1 = 0 → ∀ Q, wp none (d + 5) 218 (zpg 218 23) [.inr (some 171), .inl dv, .inl bu, .inl k, .inl nt, .inl 1] [] (rbm X r) Q ↔ wp none (d + 5) 218 (zpg 218 49) [.inr (some 171), .inl dv, .inl bu, .inl k, .inl nt, .inl 0] [] (rbm X (rtS A dv bu k m r).2) Q) := by
  intro m
  induction m with
  | zero =>
    intro r h hpo
    have := poR_bd hn hm h.2.2.2
    omega
  | succ m ih =>
    intro r h hpo
    obtain ⟨e1, e2, e3, hv⟩ := h
    have ho := Ro_of hM hm.2 hv hn.2
    have hlt := fun Q => (c_layTried (d := d) (dv := dv) (bu := bu) (k := k) (Q := Q) hX hg hd hz hb hk hw hp (r := r) (by rw [e3]; exact hn) (by rw [e1, e3]; exact ho.1) (by rw [e1, e3]; exact ho.2)).1
    obtain ⟨-, hl2⟩ := c_layTried (d := d) (dv := dv) (bu := bu) (k := k) (Q := fun _ _ => True) hX hg hd hz hb hk hw hp (r := r) (by rw [e3]; exact hn) (by rw [e1, e3]; exact ho.1) (by rw [e1, e3]; exact ho.2)
    have hst := nrJ_step (R := r.2.2.2.1) hn hm hv
    have hnr := fun Q => c_nextRowM (d := d + 4) (X := X) (r := (ltR A dv bu k r).2) (Q := Q) (by show 0 ≤ r.2.2.2.2.2.2 ∧ r.2.2.2.2.2.2 ≤ 3; rw [e3]; exact hn) (by show -1000 ≤ r.2.2.2.2.2.1 ∧ r.2.2.2.2.2.1 ≤ 1000; rw [e2]; omega) hv.2
    have f4 : (ltR A dv bu k r).2.2.2.2.1 = r.2.2.2.1 := rfl
    have f6 : (ltR A dv bu k r).2.2.2.2.2.2.1 = r.2.2.2.2.2.1 := rfl
    have f7 : (ltR A dv bu k r).2.2.2.2.2.2.2 = r.2.2.2.2.2.2 := rfl
    rw [f4, f6, f7] at hnr
    have e2' : r.2.2.2.2.2.1 = nm := e2
    by_cases c1 : (ltR A dv bu k r).1 = 1
    · have ec : rtS A dv bu k (m + 1) r = ltR A dv bu k r := if_pos c1
      rw [ec]
      refine ⟨⟨e1, e2, e3, hv⟩, Or.inl c1, fun _ Q => ?_, fun q => by omega⟩
      rw [pg_218_23]
      simp (disch := omega) only [wp_zreturn rk_218, pg_218_40, pg_218_49, pg_218_55, cw_210, cw_213, cw_214, cw_216, wp_iload, wp_aload, wp_istore, wp_astore, wp_iinc, wp_iconst, wp_dup, wp_dup2, wp_pop, wp_iadd, wp_isub, wp_imul, wp_idiv, wp_irem, wp_ineg, wp_iand, wp_ior, wp_ixor, wp_ishl, wp_ishr, wp_getI, wp_putI, wp_getR, wp_goto, wp_goto_w, wq_if_eq, wq_if_ne, wq_if_lt, wq_if_ge, wq_if_gt, wq_if_le, wq_icmp_eq, wq_icmp_ne, wq_icmp_lt, wq_icmp_ge, wq_icmp_gt, wq_icmp_le, wp_max, wp_min, kI_inl, kR_some, kN_inl, kO_some, KT_none, KT_some, List.length_cons, List.length_nil, Nat.reduceAdd, Nat.reduceLT, Nat.reduceLeDiff, Nat.reduceMod, Nat.reduceDiv, true_and, and_true, Int.reduceLE, Int.reduceNeg, Int.reduceLT, Int.cast_ofNat_Int, Nat.zero_le, zI, Int.reduceAdd, Int.reduceSub, Int.reduceMul, not_true_eq_false, not_false_eq_true, false_implies, true_implies, i01_0, i01_1, ite_not, ↓reduceIte, zget_0, zget_1, zget_2, zget_3, zget_4, zget_5, zget_6, zget_7, zget_8, zget_9, zget_10, zset_0, zset_1, zset_2, zset_3, zset_4, zset_5, zset_6, zset_7, zset_8, zset_9, zset_10, kd_171, rf_171_0, rf_171_1, rf_171_3, rf_171_4, rf_171_5, rf_171_6, rf_171_7, rf_171_8, rf_171_10, rf_171_13, rf_171_14, rf_171_15, rf_171_16, rf_171_17, rf_171_20, rf_171_21, rf_171_27, rf_171_28, rf_171_29, rf_171_30, rf_171_31, hlt, c1]
      try simp only [show ¬ (1 : Int) = 0 by omega, if_false, or_true, true_and]
    · have c0 : (ltR A dv bu k r).1 = 0 := by omega
      by_cases c2 : (nrJ r.2.2.2.2.2.2 r.2.2.2.2.2.1 r.2.2.2.2.2.2.toNat r.2.2.2.1).1 = 1
      · have ec : rtS A dv bu k (m + 1) r = rtS A dv bu k m (rR (ltR A dv bu k r).2 (nrJ r.2.2.2.2.2.2 r.2.2.2.2.2.1 r.2.2.2.2.2.2.toNat r.2.2.2.1).2) := by
          simp only [rtS, if_neg c1, if_pos c2]
        have hst2 := hst.2
        rw [← e2, ← e3] at hst2
        have ih := ih (rR (ltR A dv bu k r).2 (nrJ r.2.2.2.2.2.2 r.2.2.2.2.2.1 r.2.2.2.2.2.2.toNat r.2.2.2.1).2) ⟨e1, e2, e3, by rw [← e2, ← e3]; exact hst2.1⟩ (by
          have h5 := hst2.2 c2
          rw [e2, e3] at h5
          rw [← e2, ← e3] at hpo h5
          show poR nm nt (nrJ r.2.2.2.2.2.2 r.2.2.2.2.2.1 r.2.2.2.2.2.2.toNat r.2.2.2.1).2 < m
          rw [← e2, ← e3]
          omega)
        have es : ∀ Q, wp none (d + 5) 218 (zpg 218 23) [.inr (some 171), .inl dv, .inl bu, .inl k, .inl nt, .inl 1] [] (rbm X r) Q ↔ wp none (d + 5) 218 (zpg 218 23) [.inr (some 171), .inl dv, .inl bu, .inl k, .inl nt, .inl 1] [] (rbm X (rR (ltR A dv bu k r).2 (nrJ r.2.2.2.2.2.2 r.2.2.2.2.2.1 r.2.2.2.2.2.2.toNat r.2.2.2.1).2)) Q := by
          intro Q
          conv => lhs; rw [pg_218_23]
          simp (disch := omega) only [cw_216, cw_214, pg_218_40, wp_iload, wp_aload, wp_istore, wp_astore, wp_iinc, wp_iconst, wp_dup, wp_dup2, wp_pop, wp_iadd, wp_isub, wp_imul, wp_idiv, wp_irem, wp_ineg, wp_iand, wp_ior, wp_ixor, wp_ishl, wp_ishr, wp_getI, wp_putI, wp_getR, wp_goto, wp_goto_w, wq_if_eq, wq_if_ne, wq_if_lt, wq_if_ge, wq_if_gt, wq_if_le, wq_icmp_eq, wq_icmp_ne, wq_icmp_lt, wq_icmp_ge, wq_icmp_gt, wq_icmp_le, wp_max, wp_min, kI_inl, kR_some, kN_inl, kO_some, KT_none, KT_some, List.length_cons, List.length_nil, Nat.reduceAdd, Nat.reduceLT, Nat.reduceLeDiff, Nat.reduceMod, Nat.reduceDiv, true_and, and_true, Int.reduceLE, Int.reduceNeg, Int.reduceLT, Int.cast_ofNat_Int, Nat.zero_le, zI, Int.reduceAdd, Int.reduceSub, Int.reduceMul, not_true_eq_false, not_false_eq_true, false_implies, true_implies, i01_0, i01_1, ite_not, ↓reduceIte, zget_0, zget_1, zget_2, zget_3, zget_4, zget_5, zget_6, zget_7, zget_8, zget_9, zget_10, zset_0, zset_1, zset_2, zset_3, zset_4, zset_5, zset_6, zset_7, zset_8, zset_9, zset_10, kd_171, rf_171_0, rf_171_1, rf_171_3, rf_171_4, rf_171_5, rf_171_6, rf_171_7, rf_171_8, rf_171_10, rf_171_13, rf_171_14, rf_171_15, rf_171_16, rf_171_17, rf_171_20, rf_171_21, rf_171_27, rf_171_28, rf_171_29, rf_171_30, rf_171_31, hlt, c0, if_true, hnr, c2]
          try simp only [show ¬ (1 : Int) = 0 by omega, if_false]
        rw [ec]
        exact ⟨ih.1, ih.2.1, fun q Q => (es Q).trans (ih.2.2.1 q Q), fun q Q => (es Q).trans (ih.2.2.2 q Q)⟩
      · have ec : rtS A dv bu k (m + 1) r = (0, rR (ltR A dv bu k r).2 (nrJ r.2.2.2.2.2.2 r.2.2.2.2.2.1 r.2.2.2.2.2.2.toNat r.2.2.2.1).2) := by
          simp only [rtS, if_neg c1, if_neg c2]
        have hst2 := hst
        rw [← e2, ← e3] at hst2
        have c3 : (nrJ r.2.2.2.2.2.2 r.2.2.2.2.2.1 r.2.2.2.2.2.2.toNat r.2.2.2.1).1 = 0 := by omega
        rw [ec]
        refine ⟨⟨e1, e2, e3, by rw [← e2, ← e3]; exact hst2.2.1⟩, Or.inr rfl, fun q => ?_, fun _ Q => ?_⟩
        · have q2 : (0 : Int) = 1 := q
          omega
        · conv => lhs; rw [pg_218_23]
          simp (disch := omega) only [cw_216, cw_214, pg_218_40, wp_iload, wp_aload, wp_istore, wp_astore, wp_iinc, wp_iconst, wp_dup, wp_dup2, wp_pop, wp_iadd, wp_isub, wp_imul, wp_idiv, wp_irem, wp_ineg, wp_iand, wp_ior, wp_ixor, wp_ishl, wp_ishr, wp_getI, wp_putI, wp_getR, wp_goto, wp_goto_w, wq_if_eq, wq_if_ne, wq_if_lt, wq_if_ge, wq_if_gt, wq_if_le, wq_icmp_eq, wq_icmp_ne, wq_icmp_lt, wq_icmp_ge, wq_icmp_gt, wq_icmp_le, wp_max, wp_min, kI_inl, kR_some, kN_inl, kO_some, KT_none, KT_some, List.length_cons, List.length_nil, Nat.reduceAdd, Nat.reduceLT, Nat.reduceLeDiff, Nat.reduceMod, Nat.reduceDiv, true_and, and_true, Int.reduceLE, Int.reduceNeg, Int.reduceLT, Int.cast_ofNat_Int, Nat.zero_le, zI, Int.reduceAdd, Int.reduceSub, Int.reduceMul, not_true_eq_false, not_false_eq_true, false_implies, true_implies, i01_0, i01_1, ite_not, ↓reduceIte, zget_0, zget_1, zget_2, zget_3, zget_4, zget_5, zget_6, zget_7, zget_8, zget_9, zget_10, zset_0, zset_1, zset_2, zset_3, zset_4, zset_5, zset_6, zset_7, zset_8, zset_9, zset_10, kd_171, rf_171_0, rf_171_1, rf_171_3, rf_171_4, rf_171_5, rf_171_6, rf_171_7, rf_171_8, rf_171_10, rf_171_13, rf_171_14, rf_171_15, rf_171_16, rf_171_17, rf_171_20, rf_171_21, rf_171_27, rf_171_28, rf_171_29, rf_171_30, rf_171_31, hlt, c0, if_true, hnr, c3]
          try simp only [show ¬ (1 : Int) = 0 by omega, if_false]
          conv => lhs; rw [pg_218_23]
          simp (disch := omega) only [wp_iload, wp_aload, wp_istore, wp_astore, wp_iinc, wp_iconst, wp_dup, wp_dup2, wp_pop, wp_iadd, wp_isub, wp_imul, wp_idiv, wp_irem, wp_ineg, wp_iand, wp_ior, wp_ixor, wp_ishl, wp_ishr, wp_getI, wp_putI, wp_getR, wp_goto, wp_goto_w, wq_if_eq, wq_if_ne, wq_if_lt, wq_if_ge, wq_if_gt, wq_if_le, wq_icmp_eq, wq_icmp_ne, wq_icmp_lt, wq_icmp_ge, wq_icmp_gt, wq_icmp_le, wp_max, wp_min, kI_inl, kR_some, kN_inl, kO_some, KT_none, KT_some, List.length_cons, List.length_nil, Nat.reduceAdd, Nat.reduceLT, Nat.reduceLeDiff, Nat.reduceMod, Nat.reduceDiv, true_and, and_true, Int.reduceLE, Int.reduceNeg, Int.reduceLT, Int.cast_ofNat_Int, Nat.zero_le, zI, Int.reduceAdd, Int.reduceSub, Int.reduceMul, not_true_eq_false, not_false_eq_true, false_implies, true_implies, i01_0, i01_1, ite_not, ↓reduceIte, zget_0, zget_1, zget_2, zget_3, zget_4, zget_5, zget_6, zget_7, zget_8, zget_9, zget_10, zset_0, zset_1, zset_2, zset_3, zset_4, zset_5, zset_6, zset_7, zset_8, zset_9, zset_10, if_true]
end MR3
