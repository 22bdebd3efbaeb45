/-! the two constructors, run by the kernel -/
def zhA0 : zH := ([(9, 0)], zclr (fun _ _ => 0) 0, zclrR (fun _ _ => none) 0)
def zhA : zH := match zx 4000 99 none 84 (zpg 84 0) (zpad [.inr (some 0)] (zmi 84).2.2.2) [] zhA0 with
  | some (_, h) => h
  | none => zh0
def zhB0 : zH := (zhA.1 ++ [(10, 0)], zclr zhA.2.1 zhA.1.length, zclrR zhA.2.2 zhA.1.length)
def zhB : zH := match zx 4000 99 none 140 (zpg 140 0) (zpad [.inr (some 171)] (zmi 140).2.2.2) [] zhB0 with
  | some (_, h) => h
  | none => zh0
set_option maxRecDepth 100000 in
theorem zhA_ok : (zx 4000 99 none 84 (zpg 84 0) (zpad [.inr (some 0)] (zmi 84).2.2.2) [] zhA0).map (fun q => q.1) = some none := by decide +kernel
set_option maxRecDepth 100000 in
theorem zhB_ok : (zx 4000 99 none 140 (zpg 140 0) (zpad [.inr (some 171)] (zmi 140).2.2.2) [] zhB0).map (fun q => q.1) = some none := by decide +kernel
theorem zrunA : zx 4000 99 none 84 (zpg 84 0) (zpad [.inr (some 0)] (zmi 84).2.2.2) [] zhA0 = some (none, zhA) := by
  have h := zhA_ok
  unfold zhA
  revert h
  generalize zx 4000 99 none 84 (zpg 84 0) (zpad [.inr (some 0)] (zmi 84).2.2.2) [] zhA0 = x
  intro h
  cases x with
  | none => cases h
  | some q =>
    obtain ⟨r, h2⟩ := q
    simp only [Option.map_some, Option.some.injEq] at h
    subst h
    rfl
theorem zrunB : zx 4000 99 none 140 (zpg 140 0) (zpad [.inr (some 171)] (zmi 140).2.2.2) [] zhB0 = some (none, zhB) := by
  have h := zhB_ok
  unfold zhB
  revert h
  generalize zx 4000 99 none 140 (zpg 140 0) (zpad [.inr (some 171)] (zmi 140).2.2.2) [] zhB0 = x
  intro h
  cases x with
  | none => cases h
  | some q =>
    obtain ⟨r, h2⟩ := q
    simp only [Option.map_some, Option.some.injEq] at h
    subst h
    rfl
set_option maxRecDepth 100000 in
theorem zhA_len : zhA.1.length = 171 := by decide +kernel
def K0 : List (Nat × Nat) := [(9, 0), (3, 0), (2, 21), (8, 0), (0, 480), (0, 2), (0, 20), (0, 20), (8, 0), (0, 480), (0, 2), (0, 20), (0, 20), (8, 0), (0, 480), (0, 2), (0, 20), (0, 20), (8, 0), (0, 480), (0, 2), (0, 20), (0, 20), (8, 0), (0, 480), (0, 2), (0, 20), (0, 20), (8, 0), (0, 480), (0, 2), (0, 20), (0, 20), (8, 0), (0, 480), (0, 2), (0, 20), (0, 20), (8, 0), (0, 480), (0, 2), (0, 20), (0, 20), (8, 0), (0, 480), (0, 2), (0, 20), (0, 20), (8, 0), (0, 480), (0, 2), (0, 20), (0, 20), (8, 0), (0, 480), (0, 2), (0, 20), (0, 20), (8, 0), (0, 480), (0, 2), (0, 20), (0, 20), (8, 0), (0, 480), (0, 2), (0, 20), (0, 20), (8, 0), (0, 480), (0, 2), (0, 20), (0, 20), (8, 0), (0, 480), (0, 2), (0, 20), (0, 20), (8, 0), (0, 480), (0, 2), (0, 20), (0, 20), (8, 0), (0, 480), (0, 2), (0, 20), (0, 20), (8, 0), (0, 480), (0, 2), (0, 20), (0, 20), (8, 0), (0, 480), (0, 2), (0, 20), (0, 20), (8, 0), (0, 480), (0, 2), (0, 20), (0, 20), (8, 0), (0, 480), (0, 2), (0, 20), (0, 20), (2, 2), (8, 0), (0, 480), (0, 2), (0, 20), (0, 20), (8, 0), (0, 480), (0, 2), (0, 20), (0, 20), (1, 2), (8, 0), (0, 480), (0, 2), (0, 20), (0, 20), (7, 0), (0, 27), (0, 27), (0, 27), (0, 27), (0, 27), (5, 0), (7, 0), (0, 27), (0, 27), (0, 27), (0, 27), (0, 27), (4, 0), (7, 0), (0, 27), (0, 27), (0, 27), (0, 27), (0, 27), (7, 0), (0, 27), (0, 27), (0, 27), (0, 27), (0, 27), (7, 0), (0, 27), (0, 27), (0, 27), (0, 27), (0, 27), (7, 0), (0, 27), (0, 27), (0, 27), (0, 27), (0, 27), (0, 3), (6, 0), (7, 0), (0, 27), (0, 27), (0, 27), (0, 27), (0, 27), (10, 0), (0, 483), (0, 20), (0, 42), (0, 42), (0, 160), (0, 160), (0, 160), (0, 32), (0, 6), (0, 1024), (0, 3), (0, 24), (0, 3), (0, 3), (0, 6), (0, 6), (0, 483), (0, 20), (0, 10143), (0, 966), (1, 2)]
set_option maxRecDepth 100000 in
theorem zhB_k : zhB.1 = K0 := by decide +kernel
def R0 : zR := zhB.2.2
def im0 : zM := zhB.2.1
def R0t : List ((Nat × Int) × Nat) := [((0, 0), 1), ((0, 1), 108), ((0, 2), 119), ((0, 3), 120), ((0, 4), 125), ((0, 5), 131), ((0, 6), 138), ((0, 7), 164), ((1, 0), 2), ((2, 0), 3), ((2, 1), 8), ((2, 2), 13), ((2, 3), 18), ((2, 4), 23), ((2, 5), 28), ((2, 6), 33), ((2, 7), 38), ((2, 8), 43), ((2, 9), 48), ((2, 10), 53), ((2, 11), 58), ((2, 12), 63), ((2, 13), 68), ((2, 14), 73), ((2, 15), 78), ((2, 16), 83), ((2, 17), 88), ((2, 18), 93), ((2, 19), 98), ((2, 20), 103), ((3, 0), 4), ((3, 1), 5), ((3, 2), 6), ((3, 3), 7), ((8, 0), 9), ((8, 1), 10), ((8, 2), 11), ((8, 3), 12), ((13, 0), 14), ((13, 1), 15), ((13, 2), 16), ((13, 3), 17), ((18, 0), 19), ((18, 1), 20), ((18, 2), 21), ((18, 3), 22), ((23, 0), 24), ((23, 1), 25), ((23, 2), 26), ((23, 3), 27), ((28, 0), 29), ((28, 1), 30), ((28, 2), 31), ((28, 3), 32), ((33, 0), 34), ((33, 1), 35), ((33, 2), 36), ((33, 3), 37), ((38, 0), 39), ((38, 1), 40), ((38, 2), 41), ((38, 3), 42), ((43, 0), 44), ((43, 1), 45), ((43, 2), 46), ((43, 3), 47), ((48, 0), 49), ((48, 1), 50), ((48, 2), 51), ((48, 3), 52), ((53, 0), 54), ((53, 1), 55), ((53, 2), 56), ((53, 3), 57), ((58, 0), 59), ((58, 1), 60), ((58, 2), 61), ((58, 3), 62), ((63, 0), 64), ((63, 1), 65), ((63, 2), 66), ((63, 3), 67), ((68, 0), 69), ((68, 1), 70), ((68, 2), 71), ((68, 3), 72), ((73, 0), 74), ((73, 1), 75), ((73, 2), 76), ((73, 3), 77), ((78, 0), 79), ((78, 1), 80), ((78, 2), 81), ((78, 3), 82), ((83, 0), 84), ((83, 1), 85), ((83, 2), 86), ((83, 3), 87), ((88, 0), 89), ((88, 1), 90), ((88, 2), 91), ((88, 3), 92), ((93, 0), 94), ((93, 1), 95), ((93, 2), 96), ((93, 3), 97), ((98, 0), 99), ((98, 1), 100), ((98, 2), 101), ((98, 3), 102), ((103, 0), 104), ((103, 1), 105), ((103, 2), 106), ((103, 3), 107), ((108, 0), 109), ((108, 1), 114), ((109, 0), 110), ((109, 1), 111), ((109, 2), 112), ((109, 3), 113), ((114, 0), 115), ((114, 1), 116), ((114, 2), 117), ((114, 3), 118), ((120, 0), 121), ((120, 1), 122), ((120, 2), 123), ((120, 3), 124), ((125, 0), 126), ((125, 1), 127), ((125, 2), 128), ((125, 3), 129), ((125, 4), 130), ((131, 0), 132), ((132, 0), 133), ((132, 1), 134), ((132, 2), 135), ((132, 3), 136), ((132, 4), 137), ((138, 0), 139), ((138, 1), 145), ((138, 2), 151), ((138, 3), 157), ((138, 4), 163), ((139, 0), 140), ((139, 1), 141), ((139, 2), 142), ((139, 3), 143), ((139, 4), 144), ((145, 0), 146), ((145, 1), 147), ((145, 2), 148), ((145, 3), 149), ((145, 4), 150), ((151, 0), 152), ((151, 1), 153), ((151, 2), 154), ((151, 3), 155), ((151, 4), 156), ((157, 0), 158), ((157, 1), 159), ((157, 2), 160), ((157, 3), 161), ((157, 4), 162), ((164, 0), 165), ((165, 0), 166), ((165, 1), 167), ((165, 2), 168), ((165, 3), 169), ((165, 4), 170), ((171, 0), 172), ((171, 1), 173), ((171, 3), 174), ((171, 4), 175), ((171, 5), 176), ((171, 6), 177), ((171, 7), 178), ((171, 8), 179), ((171, 10), 180), ((171, 13), 181), ((171, 14), 182), ((171, 15), 183), ((171, 16), 184), ((171, 17), 185), ((171, 20), 186), ((171, 21), 187), ((171, 27), 188), ((171, 28), 189), ((171, 29), 190), ((171, 30), 191), ((171, 31), 192)]
set_option maxRecDepth 100000 in
theorem R0_tab : ∀ q ∈ R0t, R0 q.1.1 q.1.2 = some q.2 := by decide +kernel
set_option maxRecDepth 100000 in
theorem im0_tree : (List.range 480).all (fun j => decide (im0 4 j = 0)) = true := by decide +kernel
set_option maxRecDepth 100000 in
theorem im0_all : (List.range 483).all (fun j => decide (im0 172 j = if j = 460 ∨ j = 461 then 256 else 0)) = true := by decide +kernel
set_option maxRecDepth 100000 in
theorem im0_some : im0 3 4 = 0 ∧ im0 3 5 = 0 ∧ im0 5 0 = 256 ∧ im0 5 1 = 256 ∧ im0 1 1 = 0 ∧ im0 1 2 = 0 ∧ im0 1 3 = 0 ∧ im0 119 0 = 0 ∧ im0 119 1 = 0 ∧ im0 171 32 = 0 ∧ im0 171 33 = 0 ∧ im0 192 0 = 0 ∧ im0 192 1 = 0 := by decide +kernel
/-- the trees, the shelves -/
def zTl : List Nat := [3, 8, 13, 18, 23, 28, 33, 38, 43, 48, 53, 58, 63, 68, 73, 78, 83, 88, 93, 98, 103, 109, 114, 120]
def zSl : List Nat := [125, 132, 139, 145, 151, 157, 165]
abbrev zT (t : Nat) : Prop := t ∈ zTl
abbrev zSh (t : Nat) : Prop := t ∈ zSl
theorem zT_k {t : Nat} (h : zT t) : K0[t]? = some (8, 0) ∧ K0[t + 1]? = some (0, 480) ∧ K0[t + 2]? = some (0, 2) ∧ K0[t + 3]? = some (0, 20) ∧ K0[t + 4]? = some (0, 20) := by
  revert t
  decide +kernel
theorem zSh_k {t : Nat} (h : zSh t) : K0[t]? = some (7, 0) ∧ K0[t + 1]? = some (0, 27) ∧ K0[t + 2]? = some (0, 27) ∧ K0[t + 3]? = some (0, 27) ∧ K0[t + 4]? = some (0, 27) ∧ K0[t + 5]? = some (0, 27) := by
  revert t
  decide +kernel
set_option maxRecDepth 100000 in
theorem zT_r0 : ∀ t ∈ zTl, R0 t 0 = some (t + 1) ∧ R0 t 1 = some (t + 2) ∧ R0 t 2 = some (t + 3) ∧ R0 t 3 = some (t + 4) := by decide +kernel
set_option maxRecDepth 100000 in
theorem zSh_r0 : ∀ t ∈ zSl, R0 t 0 = some (t + 1) ∧ R0 t 1 = some (t + 2) ∧ R0 t 2 = some (t + 3) ∧ R0 t 3 = some (t + 4) ∧ R0 t 4 = some (t + 5) := by decide +kernel
theorem zring : ∀ i, i < 21 → R0 2 (i : Nat) = some (3 + 5 * i) ∧ zT (3 + 5 * i) := by decide +kernel
theorem kd_0 : K0[0]? = some (9, 0) := rfl
theorem rf_0_0 : R0 0 0 = some 1 := R0_tab ((0, 0), 1) (by decide)
theorem rf_0_1 : R0 0 1 = some 108 := R0_tab ((0, 1), 108) (by decide)
theorem rf_0_2 : R0 0 2 = some 119 := R0_tab ((0, 2), 119) (by decide)
theorem rf_0_3 : R0 0 3 = some 120 := R0_tab ((0, 3), 120) (by decide)
theorem rf_0_4 : R0 0 4 = some 125 := R0_tab ((0, 4), 125) (by decide)
theorem rf_0_5 : R0 0 5 = some 131 := R0_tab ((0, 5), 131) (by decide)
theorem rf_0_6 : R0 0 6 = some 138 := R0_tab ((0, 6), 138) (by decide)
theorem rf_0_7 : R0 0 7 = some 164 := R0_tab ((0, 7), 164) (by decide)
theorem kd_1 : K0[1]? = some (3, 0) := rfl
theorem rf_1_0 : R0 1 0 = some 2 := R0_tab ((1, 0), 2) (by decide)
theorem kd_131 : K0[131]? = some (5, 0) := rfl
theorem rf_131_0 : R0 131 0 = some 132 := R0_tab ((131, 0), 132) (by decide)
theorem kd_138 : K0[138]? = some (4, 0) := rfl
theorem rf_138_0 : R0 138 0 = some 139 := R0_tab ((138, 0), 139) (by decide)
theorem rf_138_1 : R0 138 1 = some 145 := R0_tab ((138, 1), 145) (by decide)
theorem rf_138_2 : R0 138 2 = some 151 := R0_tab ((138, 2), 151) (by decide)
theorem rf_138_3 : R0 138 3 = some 157 := R0_tab ((138, 3), 157) (by decide)
theorem rf_138_4 : R0 138 4 = some 163 := R0_tab ((138, 4), 163) (by decide)
theorem kd_164 : K0[164]? = some (6, 0) := rfl
theorem rf_164_0 : R0 164 0 = some 165 := R0_tab ((164, 0), 165) (by decide)
theorem kd_171 : K0[171]? = some (10, 0) := rfl
theorem rf_171_0 : R0 171 0 = some 172 := R0_tab ((171, 0), 172) (by decide)
theorem rf_171_1 : R0 171 1 = some 173 := R0_tab ((171, 1), 173) (by decide)
theorem rf_171_3 : R0 171 3 = some 174 := R0_tab ((171, 3), 174) (by decide)
theorem rf_171_4 : R0 171 4 = some 175 := R0_tab ((171, 4), 175) (by decide)
theorem rf_171_5 : R0 171 5 = some 176 := R0_tab ((171, 5), 176) (by decide)
theorem rf_171_6 : R0 171 6 = some 177 := R0_tab ((171, 6), 177) (by decide)
theorem rf_171_7 : R0 171 7 = some 178 := R0_tab ((171, 7), 178) (by decide)
theorem rf_171_8 : R0 171 8 = some 179 := R0_tab ((171, 8), 179) (by decide)
theorem rf_171_10 : R0 171 10 = some 180 := R0_tab ((171, 10), 180) (by decide)
theorem rf_171_13 : R0 171 13 = some 181 := R0_tab ((171, 13), 181) (by decide)
theorem rf_171_14 : R0 171 14 = some 182 := R0_tab ((171, 14), 182) (by decide)
theorem rf_171_15 : R0 171 15 = some 183 := R0_tab ((171, 15), 183) (by decide)
theorem rf_171_16 : R0 171 16 = some 184 := R0_tab ((171, 16), 184) (by decide)
theorem rf_171_17 : R0 171 17 = some 185 := R0_tab ((171, 17), 185) (by decide)
theorem rf_171_20 : R0 171 20 = some 186 := R0_tab ((171, 20), 186) (by decide)
theorem rf_171_21 : R0 171 21 = some 187 := R0_tab ((171, 21), 187) (by decide)
theorem rf_171_27 : R0 171 27 = some 188 := R0_tab ((171, 27), 188) (by decide)
theorem rf_171_28 : R0 171 28 = some 189 := R0_tab ((171, 28), 189) (by decide)
theorem rf_171_29 : R0 171 29 = some 190 := R0_tab ((171, 29), 190) (by decide)
theorem rf_171_30 : R0 171 30 = some 191 := R0_tab ((171, 30), 191) (by decide)
theorem rf_171_31 : R0 171 31 = some 192 := R0_tab ((171, 31), 192) (by decide)
theorem kd_2 : K0[2]? = some (2, 21) := rfl
theorem kd_108 : K0[108]? = some (2, 2) := rfl
theorem kd_119 : K0[119]? = some (1, 2) := rfl
theorem kd_163 : K0[163]? = some (0, 3) := rfl
theorem kd_172 : K0[172]? = some (0, 483) := rfl
theorem kd_173 : K0[173]? = some (0, 20) := rfl
theorem kd_174 : K0[174]? = some (0, 42) := rfl
theorem kd_175 : K0[175]? = some (0, 42) := rfl
theorem kd_176 : K0[176]? = some (0, 160) := rfl
theorem kd_177 : K0[177]? = some (0, 160) := rfl
theorem kd_178 : K0[178]? = some (0, 160) := rfl
theorem kd_179 : K0[179]? = some (0, 32) := rfl
theorem kd_180 : K0[180]? = some (0, 6) := rfl
theorem kd_181 : K0[181]? = some (0, 1024) := rfl
theorem kd_182 : K0[182]? = some (0, 3) := rfl
theorem kd_183 : K0[183]? = some (0, 24) := rfl
theorem kd_184 : K0[184]? = some (0, 3) := rfl
theorem kd_185 : K0[185]? = some (0, 3) := rfl
theorem kd_186 : K0[186]? = some (0, 6) := rfl
theorem kd_187 : K0[187]? = some (0, 6) := rfl
theorem kd_188 : K0[188]? = some (0, 483) := rfl
theorem kd_189 : K0[189]? = some (0, 20) := rfl
theorem kd_190 : K0[190]? = some (0, 10143) := rfl
theorem kd_191 : K0[191]? = some (0, 966) := rfl
theorem kd_192 : K0[192]? = some (1, 2) := rfl
theorem rf_108_0 : R0 108 0 = some 109 := R0_tab ((108, 0), 109) (by decide)
theorem rf_108_1 : R0 108 1 = some 114 := R0_tab ((108, 1), 114) (by decide)
