/-! THE GOAL out of a step for each act: the law's beginning -/
section ZG
variable {x : zE} {d m n : Nat} {is : List Instr} {ls st ls' st' : List zV} {h h' : zH} {i : Instr} {k : Nat} {as : List zV}
theorem zx_fuel : ∀ (n : Nat) {d m : Nat} {x : zE} {is : List Instr} {ls st : List zV} {h : zH} {q : Option zV × zH}, zx n d x m is ls st h = some q → zx (n + 1) d x m is ls st h = some q
  | 0, d, m, x, is, ls, st, h, r, hz => by simp [zx] at hz
  | n + 1, d, m, x, [], ls, st, h, r, hz => by simp [zx] at hz
  | n + 1, d, m, x, i :: is, ls, st, h, r, hz => by
    rcases zctl_or i with hi | ⟨L, rfl⟩ | ⟨L, rfl⟩ | ⟨cc, L, rfl⟩ | ⟨cc, L, rfl⟩ | ⟨df, lo, hi, offs, rfl⟩ | rfl | rfl | rfl | ⟨k, rfl⟩
    · rw [zx_other hi] at hz ⊢
      split at hz
      · exact zx_fuel n hz
      · cases hz
    · simp only [zx] at hz
      rw [show zx (n + 1 + 1) d x m (.goto L :: is) ls st h = zx (n + 1) d x m (zpg m L) ls st h from rfl]
      exact zx_fuel n hz
    · simp only [zx] at hz
      rw [show zx (n + 1 + 1) d x m (.goto_w L :: is) ls st h = zx (n + 1) d x m (zpg m L) ls st h from rfl]
      exact zx_fuel n hz
    · simp only [zx] at hz
      split at hz
      · rename_i a st
        rw [show zx (n + 1 + 1) d x m (.ifCond cc L :: is) ls (.inl a :: st) h = if zcb cc a 0 = true then zx (n + 1) d x m (zpg m L) ls st h else zx (n + 1) d x m is ls st h from rfl]
        split at hz
        · rename_i q
          rw [if_pos q]
          exact zx_fuel n hz
        · rename_i q
          rw [if_neg q]
          exact zx_fuel n hz
      · cases hz
    · simp only [zx] at hz
      split at hz
      · rename_i b a st
        rw [show zx (n + 1 + 1) d x m (.if_icmp cc L :: is) ls (.inl b :: .inl a :: st) h = if zcb cc a b = true then zx (n + 1) d x m (zpg m L) ls st h else zx (n + 1) d x m is ls st h from rfl]
        split at hz
        · rename_i q
          rw [if_pos q]
          exact zx_fuel n hz
        · rename_i q
          rw [if_neg q]
          exact zx_fuel n hz
      · cases hz
    · simp only [zx] at hz
      split at hz
      · rename_i a st
        rw [show zx (n + 1 + 1) d x m (.tableswitch df lo hi offs :: is) ls (.inl a :: st) h = if a < lo ∨ hi < a then zx (n + 1) d x m (zpg m df) ls st h else zx (n + 1) d x m (zpg m (offs.getD (a - lo).toNat (-1))) ls st h from rfl]
        split at hz
        · rename_i q
          rw [if_pos q]
          exact zx_fuel n hz
        · rename_i q
          rw [if_neg q]
          exact zx_fuel n hz
      · cases hz
    · exact hz
    · exact hz
    · exact hz
    · cases d with
      | zero => simp [zx] at hz
      | succ d =>
        simp only [zx] at hz
        rw [show zx (n + 1 + 1) (d + 1) x m (.invokedynamic k :: is) ls st h = if (zmi k).1 ≤ st.length ∧ (st.drop (zmi k).1).length ≤ 8 ∧ zrcv (zmi k).2.1 (zmi k).2.2.1 (st.take (zmi k).1).getLast? h = true then
          (match zx (n + 1) d none k (zpg k 0) (zpad (st.take (zmi k).1).reverse (zmi k).2.2.2) [] h with
          | some (r, h2) => zx (n + 1) (d + 1) x m is ls (zpu r (st.drop (zmi k).1)) h2
          | none => none)
        else none from rfl]
        split at hz
        · rename_i q
          rw [if_pos q]
          split at hz
          · rename_i r1 h1 hq
            rw [zx_fuel n hq]
            exact zx_fuel n hz
          · cases hz
        · cases hz
theorem zx_more {q : Option zV × zH} (hz : zx n d x m is ls st h = some q) (k : Nat) : zx (n + k) d x m is ls st h = some q := by
  induction k with
  | zero => exact hz
  | succ k ih => exact zx_fuel _ ih
end ZG
theorem pr3_eq {a : zH} {k : List (Nat × Nat)} (h : a.1 = k) : a = (k, a.2.1, a.2.2) := by
  subst h
  rfl
theorem zhB_eq : zhB = (K0, im0, R0) := pr3_eq zhB_k
set_option maxRecDepth 100000 in
theorem zsl_K0 : zsl K0 ≤ 7302250 := by decide +kernel
theorem zb_1 {x : zE} (N : Nat) : zx (N + 11) 100 x 274 (zpg 274 0) [.inr (some 1000000), .inr none, .inr none, .inr none] [] zh0 = zx (N + 9) 100 x 274 [.invokedynamic 84, .astore 1, .new 7, .dup, .invokedynamic 140, .astore 2, .iconst 0, .istore 3, .goto_w 18] [.inr (some 1000000), .inr none, .inr none, .inr none] [.inr (some 0), .inr (some 0)] zhA0 := rfl
theorem zb_2 {x : zE} (N : Nat) (h : zH) (hr : zrcv 1 6 (some (.inr (some 0))) h = true) : zx (N + 9) 100 x 274 [.invokedynamic 84, .astore 1, .new 7, .dup, .invokedynamic 140, .astore 2, .iconst 0, .istore 3, .goto_w 18] [.inr (some 1000000), .inr none, .inr none, .inr none] [.inr (some 0), .inr (some 0)] h = (match zx (N + 8) 99 none 84 (zpg 84 0) (zpad [.inr (some 0)] (zmi 84).2.2.2) [] h with
          | some (r, h') => zx (N + 8) 100 x 274 [.astore 1, .new 7, .dup, .invokedynamic 140, .astore 2, .iconst 0, .istore 3, .goto_w 18] [.inr (some 1000000), .inr none, .inr none, .inr none] (zpu r [.inr (some 0)]) h'
          | none => none) := by
  have e : zx (N + 9) 100 x 274 [.invokedynamic 84, .astore 1, .new 7, .dup, .invokedynamic 140, .astore 2, .iconst 0, .istore 3, .goto_w 18] [.inr (some 1000000), .inr none, .inr none, .inr none] [.inr (some 0), .inr (some 0)] h = if (zmi 84).1 ≤ 2 ∧ (List.drop (zmi 84).1 [(.inr (some 0) : zV), .inr (some 0)]).length ≤ 8 ∧ zrcv (zmi 84).2.1 (zmi 84).2.2.1 ([(.inr (some 0) : zV), .inr (some 0)].take (zmi 84).1).getLast? h = true then (match zx (N + 8) 99 none 84 (zpg 84 0) (zpad [.inr (some 0)] (zmi 84).2.2.2) [] h with
          | some (r, h') => zx (N + 8) 100 x 274 [.astore 1, .new 7, .dup, .invokedynamic 140, .astore 2, .iconst 0, .istore 3, .goto_w 18] [.inr (some 1000000), .inr none, .inr none, .inr none] (zpu r [.inr (some 0)]) h'
          | none => none) else none := rfl
  rw [e, if_pos ⟨by decide, by decide, hr⟩]
theorem zb_3 {x : zE} (N : Nat) (X : zH) (hX : X.1.length = 171) : zx (N + 8) 100 x 274 [.astore 1, .new 7, .dup, .invokedynamic 140, .astore 2, .iconst 0, .istore 3, .goto_w 18] [.inr (some 1000000), .inr none, .inr none, .inr none] (zpu none [.inr (some 0)]) X = zx (N + 5) 100 x 274 [.invokedynamic 140, .astore 2, .iconst 0, .istore 3, .goto_w 18] [.inr (some 1000000), .inr (some 0), .inr none, .inr none] [.inr (some 171), .inr (some 171)] (X.1 ++ [(10, 0)], zclr X.2.1 X.1.length, zclrR X.2.2 X.1.length) := by
  have e1 : zx (N + 8) 100 x 274 [.astore 1, .new 7, .dup, .invokedynamic 140, .astore 2, .iconst 0, .istore 3, .goto_w 18] [.inr (some 1000000), .inr none, .inr none, .inr none] (zpu none [.inr (some 0)]) X = zx (N + 7) 100 x 274 [.new 7, .dup, .invokedynamic 140, .astore 2, .iconst 0, .istore 3, .goto_w 18] [.inr (some 1000000), .inr (some 0), .inr none, .inr none] [] X := rfl
  have e2 : zs x (.new 7) [.inr (some 1000000), .inr (some 0), .inr none, .inr none] [] X = some ([.inr (some 1000000), .inr (some 0), .inr none, .inr none], [.inr (some 171)], (X.1 ++ [(10, 0)], zclr X.2.1 X.1.length, zclrR X.2.2 X.1.length)) := by
    simp only [zs]
    rw [if_pos (by omega)]
    simp only [hX]
  rw [e1, show N + 7 = (N + 6) + 1 from rfl, zx_other rfl, e2]
  rfl
theorem zb_4 {x : zE} (N : Nat) (h : zH) (hr : zrcv 1 7 (some (.inr (some 171))) h = true) : zx (N + 5) 100 x 274 [.invokedynamic 140, .astore 2, .iconst 0, .istore 3, .goto_w 18] [.inr (some 1000000), .inr (some 0), .inr none, .inr none] [.inr (some 171), .inr (some 171)] h = (match zx (N + 4) 99 none 140 (zpg 140 0) (zpad [.inr (some 171)] (zmi 140).2.2.2) [] h with
          | some (r, h') => zx (N + 4) 100 x 274 [.astore 2, .iconst 0, .istore 3, .goto_w 18] [.inr (some 1000000), .inr (some 0), .inr none, .inr none] (zpu r [.inr (some 171)]) h'
          | none => none) := by
  have e : zx (N + 5) 100 x 274 [.invokedynamic 140, .astore 2, .iconst 0, .istore 3, .goto_w 18] [.inr (some 1000000), .inr (some 0), .inr none, .inr none] [.inr (some 171), .inr (some 171)] h = if (zmi 140).1 ≤ 2 ∧ (List.drop (zmi 140).1 [(.inr (some 171) : zV), .inr (some 171)]).length ≤ 8 ∧ zrcv (zmi 140).2.1 (zmi 140).2.2.1 ([(.inr (some 171) : zV), .inr (some 171)].take (zmi 140).1).getLast? h = true then (match zx (N + 4) 99 none 140 (zpg 140 0) (zpad [.inr (some 171)] (zmi 140).2.2.2) [] h with
          | some (r, h') => zx (N + 4) 100 x 274 [.astore 2, .iconst 0, .istore 3, .goto_w 18] [.inr (some 1000000), .inr (some 0), .inr none, .inr none] (zpu r [.inr (some 171)]) h'
          | none => none) else none := rfl
  rw [e, if_pos ⟨by decide, by decide, hr⟩]
theorem zb_5 {x : zE} (N : Nat) (h : zH) : zx (N + 4) 100 x 274 [.astore 2, .iconst 0, .istore 3, .goto_w 18] [.inr (some 1000000), .inr (some 0), .inr none, .inr none] (zpu none [.inr (some 171)]) h = zx N 100 x 274 (zpg 274 18) [.inr (some 1000000), .inr (some 0), .inr (some 171), .inl 0] [] h := rfl
theorem zx_begin {x : zE} {n : Nat} {q : Option zV × zH} (hz : zx n 100 x 274 (zpg 274 18) [.inr (some 1000000), .inr (some 0), .inr (some 171), .inl 0] [] (K0, im0, R0) = some q) : ∃ N, zx N 100 x 274 (zpg 274 0) [.inr (some 1000000), .inr none, .inr none, .inr none] [] zh0 = some q := by
  obtain ⟨N, hN⟩ : ∃ N, N = n + 4000 := ⟨_, rfl⟩
  have ha := zx_more zrunA (n + 8)
  have hb := zx_more zrunB (n + 4)
  have hc := zx_more hz 4000
  rw [show 4000 + (n + 8) = N + 8 by omega] at ha
  rw [show 4000 + (n + 4) = N + 4 by omega] at hb
  rw [← hN] at hc
  have hrc : zrcv 1 7 (some (.inr (some 171))) zhB0 = true := by
    unfold zrcv zhB0
    simp only
    rw [List.getElem?_append_right (by rw [zhA_len]; exact Nat.le_refl _), zhA_len]
    rfl
  refine ⟨N + 11, ?_⟩
  rw [zb_1, zb_2 N zhA0 rfl, ha]
  dsimp only
  rw [zb_3 N zhA zhA_len]
  have e0 : (zhA.1 ++ [(10, 0)], zclr zhA.2.1 zhA.1.length, zclrR zhA.2.2 zhA.1.length) = zhB0 := rfl
  rw [e0, zb_4 N zhB0 hrc, hb]
  dsimp only
  rw [zb_5, zhB_eq]
  exact hc
set_option maxRecDepth 100000 in
theorem K0_len : K0.length ≤ 600000 := by decide +kernel
theorem zGoal_of {Inv : zM → Prop} (hs : StepAll 99 Inv) (h0 : Inv im0) : zGoal := by
  intro L xs hL hx
  obtain ⟨n, r, im', h1, hr⟩ := l_loop274 (d := 99) (L := L) hs (by omega) hx (L + 1) 0 im0 (by omega) (by omega) h0
  subst hr
  obtain ⟨N, hN⟩ := zx_begin (zy_zx n h1)
  exact ⟨N, (K0, im', R0), hN, K0_len, zsl_K0⟩
