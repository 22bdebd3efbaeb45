/-! printed: the blocks by their labels, calls and entries of each method -/
theorem zget_0 {a0 : zV} {l : List zV} : zget (a0 :: l) 0 = a0 := rfl
theorem zset_0 {a0 x : zV} {l : List zV} : zset (a0 :: l) 0 x = x :: l := rfl
theorem zget_1 {a0 a1 : zV} {l : List zV} : zget (a0 :: a1 :: l) 1 = a1 := rfl
theorem zset_1 {a0 a1 x : zV} {l : List zV} : zset (a0 :: a1 :: l) 1 x = a0 :: x :: l := rfl
theorem zget_2 {a0 a1 a2 : zV} {l : List zV} : zget (a0 :: a1 :: a2 :: l) 2 = a2 := rfl
theorem zset_2 {a0 a1 a2 x : zV} {l : List zV} : zset (a0 :: a1 :: a2 :: l) 2 x = a0 :: a1 :: x :: l := rfl
theorem zget_3 {a0 a1 a2 a3 : zV} {l : List zV} : zget (a0 :: a1 :: a2 :: a3 :: l) 3 = a3 := rfl
theorem zset_3 {a0 a1 a2 a3 x : zV} {l : List zV} : zset (a0 :: a1 :: a2 :: a3 :: l) 3 x = a0 :: a1 :: a2 :: x :: l := rfl
theorem zget_4 {a0 a1 a2 a3 a4 : zV} {l : List zV} : zget (a0 :: a1 :: a2 :: a3 :: a4 :: l) 4 = a4 := rfl
theorem zset_4 {a0 a1 a2 a3 a4 x : zV} {l : List zV} : zset (a0 :: a1 :: a2 :: a3 :: a4 :: l) 4 x = a0 :: a1 :: a2 :: a3 :: x :: l := rfl
theorem zget_5 {a0 a1 a2 a3 a4 a5 : zV} {l : List zV} : zget (a0 :: a1 :: a2 :: a3 :: a4 :: a5 :: l) 5 = a5 := rfl
theorem zset_5 {a0 a1 a2 a3 a4 a5 x : zV} {l : List zV} : zset (a0 :: a1 :: a2 :: a3 :: a4 :: a5 :: l) 5 x = a0 :: a1 :: a2 :: a3 :: a4 :: x :: l := rfl
theorem zget_6 {a0 a1 a2 a3 a4 a5 a6 : zV} {l : List zV} : zget (a0 :: a1 :: a2 :: a3 :: a4 :: a5 :: a6 :: l) 6 = a6 := rfl
theorem zset_6 {a0 a1 a2 a3 a4 a5 a6 x : zV} {l : List zV} : zset (a0 :: a1 :: a2 :: a3 :: a4 :: a5 :: a6 :: l) 6 x = a0 :: a1 :: a2 :: a3 :: a4 :: a5 :: x :: l := rfl
theorem zget_7 {a0 a1 a2 a3 a4 a5 a6 a7 : zV} {l : List zV} : zget (a0 :: a1 :: a2 :: a3 :: a4 :: a5 :: a6 :: a7 :: l) 7 = a7 := rfl
theorem zset_7 {a0 a1 a2 a3 a4 a5 a6 a7 x : zV} {l : List zV} : zset (a0 :: a1 :: a2 :: a3 :: a4 :: a5 :: a6 :: a7 :: l) 7 x = a0 :: a1 :: a2 :: a3 :: a4 :: a5 :: a6 :: x :: l := rfl
theorem zget_8 {a0 a1 a2 a3 a4 a5 a6 a7 a8 : zV} {l : List zV} : zget (a0 :: a1 :: a2 :: a3 :: a4 :: a5 :: a6 :: a7 :: a8 :: l) 8 = a8 := rfl
theorem zset_8 {a0 a1 a2 a3 a4 a5 a6 a7 a8 x : zV} {l : List zV} : zset (a0 :: a1 :: a2 :: a3 :: a4 :: a5 :: a6 :: a7 :: a8 :: l) 8 x = a0 :: a1 :: a2 :: a3 :: a4 :: a5 :: a6 :: a7 :: x :: l := rfl
theorem zget_9 {a0 a1 a2 a3 a4 a5 a6 a7 a8 a9 : zV} {l : List zV} : zget (a0 :: a1 :: a2 :: a3 :: a4 :: a5 :: a6 :: a7 :: a8 :: a9 :: l) 9 = a9 := rfl
theorem zset_9 {a0 a1 a2 a3 a4 a5 a6 a7 a8 a9 x : zV} {l : List zV} : zset (a0 :: a1 :: a2 :: a3 :: a4 :: a5 :: a6 :: a7 :: a8 :: a9 :: l) 9 x = a0 :: a1 :: a2 :: a3 :: a4 :: a5 :: a6 :: a7 :: a8 :: x :: l := rfl
theorem zget_10 {a0 a1 a2 a3 a4 a5 a6 a7 a8 a9 a10 : zV} {l : List zV} : zget (a0 :: a1 :: a2 :: a3 :: a4 :: a5 :: a6 :: a7 :: a8 :: a9 :: a10 :: l) 10 = a10 := rfl
theorem zset_10 {a0 a1 a2 a3 a4 a5 a6 a7 a8 a9 a10 x : zV} {l : List zV} : zset (a0 :: a1 :: a2 :: a3 :: a4 :: a5 :: a6 :: a7 :: a8 :: a9 :: a10 :: l) 10 x = a0 :: a1 :: a2 :: a3 :: a4 :: a5 :: a6 :: a7 :: a8 :: a9 :: x :: l := rfl
theorem zpu_none {st : List zV} : zpu none st = st := rfl
theorem zpu_some {v : zV} {st : List zV} : zpu (some v) st = v :: st := rfl
section CW
variable {x : zE} {d m k ci mL o : Nat} {is : List Instr} {ls st : List zV} {im : zM} {Q : Option zV → zM → Prop}
theorem wp_cs (as : List zV) (h : zmi k = (as.length, 0, ci, mL)) : wp x (d + 1) m (.invokedynamic k :: is) ls (as.reverse ++ st) im Q ↔ st.length ≤ 8 ∧ CallP d k as im (KT x (d + 1) m is ls st Q) := by
  rw [wp_call, h]
  have e1 : (as.reverse ++ st).take as.length = as.reverse := by rw [← List.length_reverse, List.take_left]
  have e2 : (as.reverse ++ st).drop as.length = st := by rw [← List.length_reverse, List.drop_left]
  dsimp only
  rw [e1, e2, List.reverse_reverse]
  constructor
  · rintro ⟨⟨-, h2, -⟩, h4⟩
    exact ⟨h2, h4⟩
  · rintro ⟨h2, h4⟩
    exact ⟨⟨by simp, h2, rfl⟩, h4⟩
theorem wp_cv {kd : Nat} (as : List zV) (h : zmi k = (as.length + 1, kd + 1, ci, mL)) : wp x (d + 1) m (.invokedynamic k :: is) ls (as.reverse ++ .inr (some o) :: st) im Q ↔ K0[o]? = some (ci + 3, 0) ∧ st.length ≤ 8 ∧ CallP d k (.inr (some o) :: as) im (KT x (d + 1) m is ls st Q) := by
  rw [wp_call, h]
  have e0 : as.reverse ++ .inr (some o) :: st = (.inr (some o) :: as).reverse ++ st := by simp
  have el : as.length + 1 = (.inr (some o) :: as : List zV).reverse.length := by simp
  rw [e0]
  dsimp only
  rw [el, List.take_left, List.drop_left, List.reverse_reverse]
  constructor
  · rintro ⟨⟨-, h2, h3⟩, h4⟩
    refine ⟨?_, h2, h4⟩
    simpa [zrcv] using h3
  · rintro ⟨h1, h2, h4⟩
    exact ⟨⟨by simp, h2, by simp [zrcv, h1]⟩, h4⟩
theorem mi_0 : zmi 0 = (1, 2, 0, 2) := rfl
theorem rk_0 : zrk 0 = 0 := rfl
theorem en_0 {a0 : zV} : CallP d 0 [a0] im Q ↔ wp none d 0 (zpg 0 0) [a0, .inr none] [] im Q := Iff.rfl
theorem mi_1 : zmi 1 = (1, 1, 0, 1) := rfl
theorem rk_1 : zrk 1 = 3 := rfl
theorem en_1 {a0 : zV} : CallP d 1 [a0] im Q ↔ wp none d 1 (zpg 1 0) [a0] [] im Q := Iff.rfl
theorem cw_1 : wp x (d + 1) m (.invokedynamic 1 :: is) ls (.inr (some o) :: st) im Q ↔ K0[o]? = some (3, 0) ∧ st.length ≤ 8 ∧ CallP d 1 [.inr (some o)] im (KT x (d + 1) m is ls st Q) := wp_cv [] mi_1
theorem mi_2 : zmi 2 = (2, 1, 0, 2) := rfl
theorem rk_2 : zrk 2 = 0 := rfl
theorem en_2 {a0 a1 : zV} : CallP d 2 [a0, a1] im Q ↔ wp none d 2 (zpg 2 0) [a0, a1] [] im Q := Iff.rfl
theorem cw_2 {a1 : zV} : wp x (d + 1) m (.invokedynamic 2 :: is) ls (a1 :: .inr (some o) :: st) im Q ↔ K0[o]? = some (3, 0) ∧ st.length ≤ 8 ∧ CallP d 2 [.inr (some o), a1] im (KT x (d + 1) m is ls st Q) := wp_cv [a1] mi_2
theorem mi_3 : zmi 3 = (1, 1, 0, 1) := rfl
theorem rk_3 : zrk 3 = 2 := rfl
theorem en_3 {a0 : zV} : CallP d 3 [a0] im Q ↔ wp none d 3 (zpg 3 0) [a0] [] im Q := Iff.rfl
theorem cw_3 : wp x (d + 1) m (.invokedynamic 3 :: is) ls (.inr (some o) :: st) im Q ↔ K0[o]? = some (3, 0) ∧ st.length ≤ 8 ∧ CallP d 3 [.inr (some o)] im (KT x (d + 1) m is ls st Q) := wp_cv [] mi_3
theorem mi_4 : zmi 4 = (1, 1, 0, 1) := rfl
theorem rk_4 : zrk 4 = 2 := rfl
theorem en_4 {a0 : zV} : CallP d 4 [a0] im Q ↔ wp none d 4 (zpg 4 0) [a0] [] im Q := Iff.rfl
theorem cw_4 : wp x (d + 1) m (.invokedynamic 4 :: is) ls (.inr (some o) :: st) im Q ↔ K0[o]? = some (3, 0) ∧ st.length ≤ 8 ∧ CallP d 4 [.inr (some o)] im (KT x (d + 1) m is ls st Q) := wp_cv [] mi_4
theorem mi_5 : zmi 5 = (2, 1, 0, 2) := rfl
theorem rk_5 : zrk 5 = 0 := rfl
theorem en_5 {a0 a1 : zV} : CallP d 5 [a0, a1] im Q ↔ wp none d 5 (zpg 5 0) [a0, a1] [] im Q := Iff.rfl
theorem cw_5 {a1 : zV} : wp x (d + 1) m (.invokedynamic 5 :: is) ls (a1 :: .inr (some o) :: st) im Q ↔ K0[o]? = some (3, 0) ∧ st.length ≤ 8 ∧ CallP d 5 [.inr (some o), a1] im (KT x (d + 1) m is ls st Q) := wp_cv [a1] mi_5
theorem mi_6 : zmi 6 = (1, 2, 1, 1) := rfl
theorem rk_6 : zrk 6 = 0 := rfl
theorem en_6 {a0 : zV} : CallP d 6 [a0] im Q ↔ wp none d 6 (zpg 6 0) [a0] [] im Q := Iff.rfl
theorem mi_7 : zmi 7 = (3, 1, 1, 4) := rfl
theorem rk_7 : zrk 7 = 1 := rfl
theorem en_7 {a0 a1 a2 : zV} : CallP d 7 [a0, a1, a2] im Q ↔ wp none d 7 (zpg 7 0) [a0, a1, a2, .inr none] [] im Q := Iff.rfl
theorem cw_7 {a1 a2 : zV} : wp x (d + 1) m (.invokedynamic 7 :: is) ls (a2 :: a1 :: .inr (some o) :: st) im Q ↔ K0[o]? = some (4, 0) ∧ st.length ≤ 8 ∧ CallP d 7 [.inr (some o), a1, a2] im (KT x (d + 1) m is ls st Q) := wp_cv [a1, a2] mi_7
theorem mi_8 : zmi 8 = (4, 1, 1, 7) := rfl
theorem rk_8 : zrk 8 = 1 := rfl
theorem en_8 {a0 a1 a2 a3 : zV} : CallP d 8 [a0, a1, a2, a3] im Q ↔ wp none d 8 (zpg 8 0) [a0, a1, a2, a3, .inr none, .inr none, .inr none] [] im Q := Iff.rfl
theorem cw_8 {a1 a2 a3 : zV} : wp x (d + 1) m (.invokedynamic 8 :: is) ls (a3 :: a2 :: a1 :: .inr (some o) :: st) im Q ↔ K0[o]? = some (4, 0) ∧ st.length ≤ 8 ∧ CallP d 8 [.inr (some o), a1, a2, a3] im (KT x (d + 1) m is ls st Q) := wp_cv [a1, a2, a3] mi_8
theorem mi_9 : zmi 9 = (5, 1, 1, 8) := rfl
theorem rk_9 : zrk 9 = 2 := rfl
theorem en_9 {a0 a1 a2 a3 a4 : zV} : CallP d 9 [a0, a1, a2, a3, a4] im Q ↔ wp none d 9 (zpg 9 0) [a0, a1, a2, a3, a4, .inr none, .inr none, .inr none] [] im Q := Iff.rfl
theorem cw_9 {a1 a2 a3 a4 : zV} : wp x (d + 1) m (.invokedynamic 9 :: is) ls (a4 :: a3 :: a2 :: a1 :: .inr (some o) :: st) im Q ↔ K0[o]? = some (4, 0) ∧ st.length ≤ 8 ∧ CallP d 9 [.inr (some o), a1, a2, a3, a4] im (KT x (d + 1) m is ls st Q) := wp_cv [a1, a2, a3, a4] mi_9
theorem mi_10 : zmi 10 = (3, 1, 1, 5) := rfl
theorem rk_10 : zrk 10 = 1 := rfl
theorem en_10 {a0 a1 a2 : zV} : CallP d 10 [a0, a1, a2] im Q ↔ wp none d 10 (zpg 10 0) [a0, a1, a2, .inr none, .inr none] [] im Q := Iff.rfl
theorem cw_10 {a1 a2 : zV} : wp x (d + 1) m (.invokedynamic 10 :: is) ls (a2 :: a1 :: .inr (some o) :: st) im Q ↔ K0[o]? = some (4, 0) ∧ st.length ≤ 8 ∧ CallP d 10 [.inr (some o), a1, a2] im (KT x (d + 1) m is ls st Q) := wp_cv [a1, a2] mi_10
theorem mi_11 : zmi 11 = (5, 1, 1, 9) := rfl
theorem rk_11 : zrk 11 = 1 := rfl
theorem en_11 {a0 a1 a2 a3 a4 : zV} : CallP d 11 [a0, a1, a2, a3, a4] im Q ↔ wp none d 11 (zpg 11 0) [a0, a1, a2, a3, a4, .inr none, .inr none, .inr none, .inr none] [] im Q := Iff.rfl
theorem cw_11 {a1 a2 a3 a4 : zV} : wp x (d + 1) m (.invokedynamic 11 :: is) ls (a4 :: a3 :: a2 :: a1 :: .inr (some o) :: st) im Q ↔ K0[o]? = some (4, 0) ∧ st.length ≤ 8 ∧ CallP d 11 [.inr (some o), a1, a2, a3, a4] im (KT x (d + 1) m is ls st Q) := wp_cv [a1, a2, a3, a4] mi_11
theorem mi_12 : zmi 12 = (4, 1, 1, 5) := rfl
theorem rk_12 : zrk 12 = 0 := rfl
theorem en_12 {a0 a1 a2 a3 : zV} : CallP d 12 [a0, a1, a2, a3] im Q ↔ wp none d 12 (zpg 12 0) [a0, a1, a2, a3, .inr none] [] im Q := Iff.rfl
theorem cw_12 {a1 a2 a3 : zV} : wp x (d + 1) m (.invokedynamic 12 :: is) ls (a3 :: a2 :: a1 :: .inr (some o) :: st) im Q ↔ K0[o]? = some (4, 0) ∧ st.length ≤ 8 ∧ CallP d 12 [.inr (some o), a1, a2, a3] im (KT x (d + 1) m is ls st Q) := wp_cv [a1, a2, a3] mi_12
theorem mi_13 : zmi 13 = (6, 1, 1, 8) := rfl
theorem rk_13 : zrk 13 = 2 := rfl
theorem en_13 {a0 a1 a2 a3 a4 a5 : zV} : CallP d 13 [a0, a1, a2, a3, a4, a5] im Q ↔ wp none d 13 (zpg 13 0) [a0, a1, a2, a3, a4, a5, .inr none, .inr none] [] im Q := Iff.rfl
theorem cw_13 {a1 a2 a3 a4 a5 : zV} : wp x (d + 1) m (.invokedynamic 13 :: is) ls (a5 :: a4 :: a3 :: a2 :: a1 :: .inr (some o) :: st) im Q ↔ K0[o]? = some (4, 0) ∧ st.length ≤ 8 ∧ CallP d 13 [.inr (some o), a1, a2, a3, a4, a5] im (KT x (d + 1) m is ls st Q) := wp_cv [a1, a2, a3, a4, a5] mi_13
theorem mi_14 : zmi 14 = (2, 1, 1, 4) := rfl
theorem rk_14 : zrk 14 = 2 := rfl
theorem en_14 {a0 a1 : zV} : CallP d 14 [a0, a1] im Q ↔ wp none d 14 (zpg 14 0) [a0, a1, .inr none, .inr none] [] im Q := Iff.rfl
theorem cw_14 {a1 : zV} : wp x (d + 1) m (.invokedynamic 14 :: is) ls (a1 :: .inr (some o) :: st) im Q ↔ K0[o]? = some (4, 0) ∧ st.length ≤ 8 ∧ CallP d 14 [.inr (some o), a1] im (KT x (d + 1) m is ls st Q) := wp_cv [a1] mi_14
theorem mi_15 : zmi 15 = (4, 1, 1, 9) := rfl
theorem rk_15 : zrk 15 = 2 := rfl
theorem en_15 {a0 a1 a2 a3 : zV} : CallP d 15 [a0, a1, a2, a3] im Q ↔ wp none d 15 (zpg 15 0) [a0, a1, a2, a3, .inr none, .inr none, .inr none, .inr none, .inr none] [] im Q := Iff.rfl
theorem cw_15 {a1 a2 a3 : zV} : wp x (d + 1) m (.invokedynamic 15 :: is) ls (a3 :: a2 :: a1 :: .inr (some o) :: st) im Q ↔ K0[o]? = some (4, 0) ∧ st.length ≤ 8 ∧ CallP d 15 [.inr (some o), a1, a2, a3] im (KT x (d + 1) m is ls st Q) := wp_cv [a1, a2, a3] mi_15
theorem mi_16 : zmi 16 = (5, 1, 1, 7) := rfl
theorem rk_16 : zrk 16 = 0 := rfl
theorem en_16 {a0 a1 a2 a3 a4 : zV} : CallP d 16 [a0, a1, a2, a3, a4] im Q ↔ wp none d 16 (zpg 16 0) [a0, a1, a2, a3, a4, .inr none, .inr none] [] im Q := Iff.rfl
theorem cw_16 {a1 a2 a3 a4 : zV} : wp x (d + 1) m (.invokedynamic 16 :: is) ls (a4 :: a3 :: a2 :: a1 :: .inr (some o) :: st) im Q ↔ K0[o]? = some (4, 0) ∧ st.length ≤ 8 ∧ CallP d 16 [.inr (some o), a1, a2, a3, a4] im (KT x (d + 1) m is ls st Q) := wp_cv [a1, a2, a3, a4] mi_16
theorem mi_17 : zmi 17 = (3, 1, 1, 7) := rfl
theorem rk_17 : zrk 17 = 1 := rfl
theorem en_17 {a0 a1 a2 : zV} : CallP d 17 [a0, a1, a2] im Q ↔ wp none d 17 (zpg 17 0) [a0, a1, a2, .inr none, .inr none, .inr none, .inr none] [] im Q := Iff.rfl
theorem cw_17 {a1 a2 : zV} : wp x (d + 1) m (.invokedynamic 17 :: is) ls (a2 :: a1 :: .inr (some o) :: st) im Q ↔ K0[o]? = some (4, 0) ∧ st.length ≤ 8 ∧ CallP d 17 [.inr (some o), a1, a2] im (KT x (d + 1) m is ls st Q) := wp_cv [a1, a2] mi_17
theorem mi_18 : zmi 18 = (1, 2, 2, 1) := rfl
theorem rk_18 : zrk 18 = 0 := rfl
theorem en_18 {a0 : zV} : CallP d 18 [a0] im Q ↔ wp none d 18 (zpg 18 0) [a0] [] im Q := Iff.rfl
theorem mi_19 : zmi 19 = (2, 1, 2, 5) := rfl
theorem rk_19 : zrk 19 = 0 := rfl
theorem en_19 {a0 a1 : zV} : CallP d 19 [a0, a1] im Q ↔ wp none d 19 (zpg 19 0) [a0, a1, .inr none, .inr none, .inr none] [] im Q := Iff.rfl
theorem cw_19 {a1 : zV} : wp x (d + 1) m (.invokedynamic 19 :: is) ls (a1 :: .inr (some o) :: st) im Q ↔ K0[o]? = some (5, 0) ∧ st.length ≤ 8 ∧ CallP d 19 [.inr (some o), a1] im (KT x (d + 1) m is ls st Q) := wp_cv [a1] mi_19
theorem mi_20 : zmi 20 = (4, 0, 2, 9) := rfl
theorem rk_20 : zrk 20 = 1 := rfl
theorem en_20 {a0 a1 a2 a3 : zV} : CallP d 20 [a0, a1, a2, a3] im Q ↔ wp none d 20 (zpg 20 0) [a0, a1, a2, a3, .inr none, .inr none, .inr none, .inr none, .inr none] [] im Q := Iff.rfl
theorem cw_20 {a0 a1 a2 a3 : zV} : wp x (d + 1) m (.invokedynamic 20 :: is) ls (a3 :: a2 :: a1 :: a0 :: st) im Q ↔ st.length ≤ 8 ∧ CallP d 20 [a0, a1, a2, a3] im (KT x (d + 1) m is ls st Q) := wp_cs [a0, a1, a2, a3] mi_20
theorem mi_21 : zmi 21 = (3, 1, 2, 6) := rfl
theorem rk_21 : zrk 21 = 1 := rfl
theorem en_21 {a0 a1 a2 : zV} : CallP d 21 [a0, a1, a2] im Q ↔ wp none d 21 (zpg 21 0) [a0, a1, a2, .inr none, .inr none, .inr none] [] im Q := Iff.rfl
theorem cw_21 {a1 a2 : zV} : wp x (d + 1) m (.invokedynamic 21 :: is) ls (a2 :: a1 :: .inr (some o) :: st) im Q ↔ K0[o]? = some (5, 0) ∧ st.length ≤ 8 ∧ CallP d 21 [.inr (some o), a1, a2] im (KT x (d + 1) m is ls st Q) := wp_cv [a1, a2] mi_21
theorem mi_22 : zmi 22 = (2, 0, 2, 2) := rfl
theorem rk_22 : zrk 22 = 2 := rfl
theorem en_22 {a0 a1 : zV} : CallP d 22 [a0, a1] im Q ↔ wp none d 22 (zpg 22 0) [a0, a1] [] im Q := Iff.rfl
theorem cw_22 {a0 a1 : zV} : wp x (d + 1) m (.invokedynamic 22 :: is) ls (a1 :: a0 :: st) im Q ↔ st.length ≤ 8 ∧ CallP d 22 [a0, a1] im (KT x (d + 1) m is ls st Q) := wp_cs [a0, a1] mi_22
theorem mi_23 : zmi 23 = (4, 1, 2, 4) := rfl
theorem rk_23 : zrk 23 = 1 := rfl
theorem en_23 {a0 a1 a2 a3 : zV} : CallP d 23 [a0, a1, a2, a3] im Q ↔ wp none d 23 (zpg 23 0) [a0, a1, a2, a3] [] im Q := Iff.rfl
theorem cw_23 {a1 a2 a3 : zV} : wp x (d + 1) m (.invokedynamic 23 :: is) ls (a3 :: a2 :: a1 :: .inr (some o) :: st) im Q ↔ K0[o]? = some (5, 0) ∧ st.length ≤ 8 ∧ CallP d 23 [.inr (some o), a1, a2, a3] im (KT x (d + 1) m is ls st Q) := wp_cv [a1, a2, a3] mi_23
theorem mi_24 : zmi 24 = (4, 1, 2, 4) := rfl
theorem rk_24 : zrk 24 = 1 := rfl
theorem en_24 {a0 a1 a2 a3 : zV} : CallP d 24 [a0, a1, a2, a3] im Q ↔ wp none d 24 (zpg 24 0) [a0, a1, a2, a3] [] im Q := Iff.rfl
theorem cw_24 {a1 a2 a3 : zV} : wp x (d + 1) m (.invokedynamic 24 :: is) ls (a3 :: a2 :: a1 :: .inr (some o) :: st) im Q ↔ K0[o]? = some (5, 0) ∧ st.length ≤ 8 ∧ CallP d 24 [.inr (some o), a1, a2, a3] im (KT x (d + 1) m is ls st Q) := wp_cv [a1, a2, a3] mi_24
theorem mi_25 : zmi 25 = (4, 1, 2, 8) := rfl
theorem rk_25 : zrk 25 = 0 := rfl
theorem en_25 {a0 a1 a2 a3 : zV} : CallP d 25 [a0, a1, a2, a3] im Q ↔ wp none d 25 (zpg 25 0) [a0, a1, a2, a3, .inr none, .inr none, .inr none, .inr none] [] im Q := Iff.rfl
theorem cw_25 {a1 a2 a3 : zV} : wp x (d + 1) m (.invokedynamic 25 :: is) ls (a3 :: a2 :: a1 :: .inr (some o) :: st) im Q ↔ K0[o]? = some (5, 0) ∧ st.length ≤ 8 ∧ CallP d 25 [.inr (some o), a1, a2, a3] im (KT x (d + 1) m is ls st Q) := wp_cv [a1, a2, a3] mi_25
theorem mi_26 : zmi 26 = (1, 2, 3, 1) := rfl
theorem rk_26 : zrk 26 = 0 := rfl
theorem en_26 {a0 : zV} : CallP d 26 [a0] im Q ↔ wp none d 26 (zpg 26 0) [a0] [] im Q := Iff.rfl
theorem mi_27 : zmi 27 = (5, 1, 3, 5) := rfl
theorem rk_27 : zrk 27 = 2 := rfl
theorem en_27 {a0 a1 a2 a3 a4 : zV} : CallP d 27 [a0, a1, a2, a3, a4] im Q ↔ wp none d 27 (zpg 27 0) [a0, a1, a2, a3, a4] [] im Q := Iff.rfl
theorem cw_27 {a1 a2 a3 a4 : zV} : wp x (d + 1) m (.invokedynamic 27 :: is) ls (a4 :: a3 :: a2 :: a1 :: .inr (some o) :: st) im Q ↔ K0[o]? = some (6, 0) ∧ st.length ≤ 8 ∧ CallP d 27 [.inr (some o), a1, a2, a3, a4] im (KT x (d + 1) m is ls st Q) := wp_cv [a1, a2, a3, a4] mi_27
theorem mi_28 : zmi 28 = (5, 1, 3, 6) := rfl
theorem rk_28 : zrk 28 = 0 := rfl
theorem en_28 {a0 a1 a2 a3 a4 : zV} : CallP d 28 [a0, a1, a2, a3, a4] im Q ↔ wp none d 28 (zpg 28 0) [a0, a1, a2, a3, a4, .inr none] [] im Q := Iff.rfl
theorem cw_28 {a1 a2 a3 a4 : zV} : wp x (d + 1) m (.invokedynamic 28 :: is) ls (a4 :: a3 :: a2 :: a1 :: .inr (some o) :: st) im Q ↔ K0[o]? = some (6, 0) ∧ st.length ≤ 8 ∧ CallP d 28 [.inr (some o), a1, a2, a3, a4] im (KT x (d + 1) m is ls st Q) := wp_cv [a1, a2, a3, a4] mi_28
theorem mi_29 : zmi 29 = (4, 0, 3, 5) := rfl
theorem rk_29 : zrk 29 = 2 := rfl
theorem en_29 {a0 a1 a2 a3 : zV} : CallP d 29 [a0, a1, a2, a3] im Q ↔ wp none d 29 (zpg 29 0) [a0, a1, a2, a3, .inr none] [] im Q := Iff.rfl
theorem cw_29 {a0 a1 a2 a3 : zV} : wp x (d + 1) m (.invokedynamic 29 :: is) ls (a3 :: a2 :: a1 :: a0 :: st) im Q ↔ st.length ≤ 8 ∧ CallP d 29 [a0, a1, a2, a3] im (KT x (d + 1) m is ls st Q) := wp_cs [a0, a1, a2, a3] mi_29
theorem mi_30 : zmi 30 = (5, 1, 3, 8) := rfl
theorem rk_30 : zrk 30 = 2 := rfl
theorem en_30 {a0 a1 a2 a3 a4 : zV} : CallP d 30 [a0, a1, a2, a3, a4] im Q ↔ wp none d 30 (zpg 30 0) [a0, a1, a2, a3, a4, .inr none, .inr none, .inr none] [] im Q := Iff.rfl
theorem cw_30 {a1 a2 a3 a4 : zV} : wp x (d + 1) m (.invokedynamic 30 :: is) ls (a4 :: a3 :: a2 :: a1 :: .inr (some o) :: st) im Q ↔ K0[o]? = some (6, 0) ∧ st.length ≤ 8 ∧ CallP d 30 [.inr (some o), a1, a2, a3, a4] im (KT x (d + 1) m is ls st Q) := wp_cv [a1, a2, a3, a4] mi_30
theorem mi_31 : zmi 31 = (1, 2, 4, 1) := rfl
theorem rk_31 : zrk 31 = 0 := rfl
theorem en_31 {a0 : zV} : CallP d 31 [a0] im Q ↔ wp none d 31 (zpg 31 0) [a0] [] im Q := Iff.rfl
theorem mi_32 : zmi 32 = (1, 1, 4, 1) := rfl
theorem rk_32 : zrk 32 = 0 := rfl
theorem en_32 {a0 : zV} : CallP d 32 [a0] im Q ↔ wp none d 32 (zpg 32 0) [a0] [] im Q := Iff.rfl
theorem cw_32 : wp x (d + 1) m (.invokedynamic 32 :: is) ls (.inr (some o) :: st) im Q ↔ K0[o]? = some (7, 0) ∧ st.length ≤ 8 ∧ CallP d 32 [.inr (some o)] im (KT x (d + 1) m is ls st Q) := wp_cv [] mi_32
theorem mi_33 : zmi 33 = (4, 1, 4, 6) := rfl
theorem rk_33 : zrk 33 = 0 := rfl
theorem en_33 {a0 a1 a2 a3 : zV} : CallP d 33 [a0, a1, a2, a3] im Q ↔ wp none d 33 (zpg 33 0) [a0, a1, a2, a3, .inr none, .inr none] [] im Q := Iff.rfl
theorem cw_33 {a1 a2 a3 : zV} : wp x (d + 1) m (.invokedynamic 33 :: is) ls (a3 :: a2 :: a1 :: .inr (some o) :: st) im Q ↔ K0[o]? = some (7, 0) ∧ st.length ≤ 8 ∧ CallP d 33 [.inr (some o), a1, a2, a3] im (KT x (d + 1) m is ls st Q) := wp_cv [a1, a2, a3] mi_33
theorem mi_34 : zmi 34 = (4, 1, 4, 6) := rfl
theorem rk_34 : zrk 34 = 0 := rfl
theorem en_34 {a0 a1 a2 a3 : zV} : CallP d 34 [a0, a1, a2, a3] im Q ↔ wp none d 34 (zpg 34 0) [a0, a1, a2, a3, .inr none, .inr none] [] im Q := Iff.rfl
theorem cw_34 {a1 a2 a3 : zV} : wp x (d + 1) m (.invokedynamic 34 :: is) ls (a3 :: a2 :: a1 :: .inr (some o) :: st) im Q ↔ K0[o]? = some (7, 0) ∧ st.length ≤ 8 ∧ CallP d 34 [.inr (some o), a1, a2, a3] im (KT x (d + 1) m is ls st Q) := wp_cv [a1, a2, a3] mi_34
theorem mi_35 : zmi 35 = (6, 1, 4, 6) := rfl
theorem rk_35 : zrk 35 = 0 := rfl
theorem en_35 {a0 a1 a2 a3 a4 a5 : zV} : CallP d 35 [a0, a1, a2, a3, a4, a5] im Q ↔ wp none d 35 (zpg 35 0) [a0, a1, a2, a3, a4, a5] [] im Q := Iff.rfl
theorem cw_35 {a1 a2 a3 a4 a5 : zV} : wp x (d + 1) m (.invokedynamic 35 :: is) ls (a5 :: a4 :: a3 :: a2 :: a1 :: .inr (some o) :: st) im Q ↔ K0[o]? = some (7, 0) ∧ st.length ≤ 8 ∧ CallP d 35 [.inr (some o), a1, a2, a3, a4, a5] im (KT x (d + 1) m is ls st Q) := wp_cv [a1, a2, a3, a4, a5] mi_35
theorem mi_36 : zmi 36 = (3, 1, 4, 3) := rfl
theorem rk_36 : zrk 36 = 0 := rfl
theorem en_36 {a0 a1 a2 : zV} : CallP d 36 [a0, a1, a2] im Q ↔ wp none d 36 (zpg 36 0) [a0, a1, a2] [] im Q := Iff.rfl
theorem cw_36 {a1 a2 : zV} : wp x (d + 1) m (.invokedynamic 36 :: is) ls (a2 :: a1 :: .inr (some o) :: st) im Q ↔ K0[o]? = some (7, 0) ∧ st.length ≤ 8 ∧ CallP d 36 [.inr (some o), a1, a2] im (KT x (d + 1) m is ls st Q) := wp_cv [a1, a2] mi_36
theorem mi_37 : zmi 37 = (1, 1, 4, 3) := rfl
theorem rk_37 : zrk 37 = 0 := rfl
theorem en_37 {a0 : zV} : CallP d 37 [a0] im Q ↔ wp none d 37 (zpg 37 0) [a0, .inr none, .inr none] [] im Q := Iff.rfl
theorem cw_37 : wp x (d + 1) m (.invokedynamic 37 :: is) ls (.inr (some o) :: st) im Q ↔ K0[o]? = some (7, 0) ∧ st.length ≤ 8 ∧ CallP d 37 [.inr (some o)] im (KT x (d + 1) m is ls st Q) := wp_cv [] mi_37
theorem mi_38 : zmi 38 = (3, 1, 4, 3) := rfl
theorem rk_38 : zrk 38 = 2 := rfl
theorem en_38 {a0 a1 a2 : zV} : CallP d 38 [a0, a1, a2] im Q ↔ wp none d 38 (zpg 38 0) [a0, a1, a2] [] im Q := Iff.rfl
theorem cw_38 {a1 a2 : zV} : wp x (d + 1) m (.invokedynamic 38 :: is) ls (a2 :: a1 :: .inr (some o) :: st) im Q ↔ K0[o]? = some (7, 0) ∧ st.length ≤ 8 ∧ CallP d 38 [.inr (some o), a1, a2] im (KT x (d + 1) m is ls st Q) := wp_cv [a1, a2] mi_38
theorem mi_39 : zmi 39 = (2, 0, 4, 3) := rfl
theorem rk_39 : zrk 39 = 0 := rfl
theorem en_39 {a0 a1 : zV} : CallP d 39 [a0, a1] im Q ↔ wp none d 39 (zpg 39 0) [a0, a1, .inr none] [] im Q := Iff.rfl
theorem cw_39 {a0 a1 : zV} : wp x (d + 1) m (.invokedynamic 39 :: is) ls (a1 :: a0 :: st) im Q ↔ st.length ≤ 8 ∧ CallP d 39 [a0, a1] im (KT x (d + 1) m is ls st Q) := wp_cs [a0, a1] mi_39
theorem mi_40 : zmi 40 = (1, 1, 4, 3) := rfl
theorem rk_40 : zrk 40 = 1 := rfl
theorem en_40 {a0 : zV} : CallP d 40 [a0] im Q ↔ wp none d 40 (zpg 40 0) [a0, .inr none, .inr none] [] im Q := Iff.rfl
theorem cw_40 : wp x (d + 1) m (.invokedynamic 40 :: is) ls (.inr (some o) :: st) im Q ↔ K0[o]? = some (7, 0) ∧ st.length ≤ 8 ∧ CallP d 40 [.inr (some o)] im (KT x (d + 1) m is ls st Q) := wp_cv [] mi_40
theorem mi_41 : zmi 41 = (1, 1, 4, 3) := rfl
theorem rk_41 : zrk 41 = 1 := rfl
theorem en_41 {a0 : zV} : CallP d 41 [a0] im Q ↔ wp none d 41 (zpg 41 0) [a0, .inr none, .inr none] [] im Q := Iff.rfl
theorem cw_41 : wp x (d + 1) m (.invokedynamic 41 :: is) ls (.inr (some o) :: st) im Q ↔ K0[o]? = some (7, 0) ∧ st.length ≤ 8 ∧ CallP d 41 [.inr (some o)] im (KT x (d + 1) m is ls st Q) := wp_cv [] mi_41
theorem mi_42 : zmi 42 = (1, 1, 4, 3) := rfl
theorem rk_42 : zrk 42 = 1 := rfl
theorem en_42 {a0 : zV} : CallP d 42 [a0] im Q ↔ wp none d 42 (zpg 42 0) [a0, .inr none, .inr none] [] im Q := Iff.rfl
theorem cw_42 : wp x (d + 1) m (.invokedynamic 42 :: is) ls (.inr (some o) :: st) im Q ↔ K0[o]? = some (7, 0) ∧ st.length ≤ 8 ∧ CallP d 42 [.inr (some o)] im (KT x (d + 1) m is ls st Q) := wp_cv [] mi_42
theorem mi_43 : zmi 43 = (5, 1, 4, 8) := rfl
theorem rk_43 : zrk 43 = 1 := rfl
theorem en_43 {a0 a1 a2 a3 a4 : zV} : CallP d 43 [a0, a1, a2, a3, a4] im Q ↔ wp none d 43 (zpg 43 0) [a0, a1, a2, a3, a4, .inr none, .inr none, .inr none] [] im Q := Iff.rfl
theorem cw_43 {a1 a2 a3 a4 : zV} : wp x (d + 1) m (.invokedynamic 43 :: is) ls (a4 :: a3 :: a2 :: a1 :: .inr (some o) :: st) im Q ↔ K0[o]? = some (7, 0) ∧ st.length ≤ 8 ∧ CallP d 43 [.inr (some o), a1, a2, a3, a4] im (KT x (d + 1) m is ls st Q) := wp_cv [a1, a2, a3, a4] mi_43
theorem mi_44 : zmi 44 = (4, 1, 4, 5) := rfl
theorem rk_44 : zrk 44 = 1 := rfl
theorem en_44 {a0 a1 a2 a3 : zV} : CallP d 44 [a0, a1, a2, a3] im Q ↔ wp none d 44 (zpg 44 0) [a0, a1, a2, a3, .inr none] [] im Q := Iff.rfl
theorem cw_44 {a1 a2 a3 : zV} : wp x (d + 1) m (.invokedynamic 44 :: is) ls (a3 :: a2 :: a1 :: .inr (some o) :: st) im Q ↔ K0[o]? = some (7, 0) ∧ st.length ≤ 8 ∧ CallP d 44 [.inr (some o), a1, a2, a3] im (KT x (d + 1) m is ls st Q) := wp_cv [a1, a2, a3] mi_44
theorem mi_45 : zmi 45 = (2, 1, 4, 4) := rfl
theorem rk_45 : zrk 45 = 1 := rfl
theorem en_45 {a0 a1 : zV} : CallP d 45 [a0, a1] im Q ↔ wp none d 45 (zpg 45 0) [a0, a1, .inr none, .inr none] [] im Q := Iff.rfl
theorem cw_45 {a1 : zV} : wp x (d + 1) m (.invokedynamic 45 :: is) ls (a1 :: .inr (some o) :: st) im Q ↔ K0[o]? = some (7, 0) ∧ st.length ≤ 8 ∧ CallP d 45 [.inr (some o), a1] im (KT x (d + 1) m is ls st Q) := wp_cv [a1] mi_45
theorem mi_46 : zmi 46 = (3, 1, 4, 6) := rfl
theorem rk_46 : zrk 46 = 1 := rfl
theorem en_46 {a0 a1 a2 : zV} : CallP d 46 [a0, a1, a2] im Q ↔ wp none d 46 (zpg 46 0) [a0, a1, a2, .inr none, .inr none, .inr none] [] im Q := Iff.rfl
theorem cw_46 {a1 a2 : zV} : wp x (d + 1) m (.invokedynamic 46 :: is) ls (a2 :: a1 :: .inr (some o) :: st) im Q ↔ K0[o]? = some (7, 0) ∧ st.length ≤ 8 ∧ CallP d 46 [.inr (some o), a1, a2] im (KT x (d + 1) m is ls st Q) := wp_cv [a1, a2] mi_46
theorem mi_47 : zmi 47 = (1, 2, 5, 1) := rfl
theorem rk_47 : zrk 47 = 0 := rfl
theorem en_47 {a0 : zV} : CallP d 47 [a0] im Q ↔ wp none d 47 (zpg 47 0) [a0] [] im Q := Iff.rfl
theorem mi_48 : zmi 48 = (2, 1, 5, 2) := rfl
theorem rk_48 : zrk 48 = 0 := rfl
theorem en_48 {a0 a1 : zV} : CallP d 48 [a0, a1] im Q ↔ wp none d 48 (zpg 48 0) [a0, a1] [] im Q := Iff.rfl
theorem cw_48 {a1 : zV} : wp x (d + 1) m (.invokedynamic 48 :: is) ls (a1 :: .inr (some o) :: st) im Q ↔ K0[o]? = some (8, 0) ∧ st.length ≤ 8 ∧ CallP d 48 [.inr (some o), a1] im (KT x (d + 1) m is ls st Q) := wp_cv [a1] mi_48
theorem mi_49 : zmi 49 = (3, 1, 5, 3) := rfl
theorem rk_49 : zrk 49 = 1 := rfl
theorem en_49 {a0 a1 a2 : zV} : CallP d 49 [a0, a1, a2] im Q ↔ wp none d 49 (zpg 49 0) [a0, a1, a2] [] im Q := Iff.rfl
theorem cw_49 {a1 a2 : zV} : wp x (d + 1) m (.invokedynamic 49 :: is) ls (a2 :: a1 :: .inr (some o) :: st) im Q ↔ K0[o]? = some (8, 0) ∧ st.length ≤ 8 ∧ CallP d 49 [.inr (some o), a1, a2] im (KT x (d + 1) m is ls st Q) := wp_cv [a1, a2] mi_49
theorem mi_50 : zmi 50 = (4, 1, 5, 4) := rfl
theorem rk_50 : zrk 50 = 0 := rfl
theorem en_50 {a0 a1 a2 a3 : zV} : CallP d 50 [a0, a1, a2, a3] im Q ↔ wp none d 50 (zpg 50 0) [a0, a1, a2, a3] [] im Q := Iff.rfl
theorem cw_50 {a1 a2 a3 : zV} : wp x (d + 1) m (.invokedynamic 50 :: is) ls (a3 :: a2 :: a1 :: .inr (some o) :: st) im Q ↔ K0[o]? = some (8, 0) ∧ st.length ≤ 8 ∧ CallP d 50 [.inr (some o), a1, a2, a3] im (KT x (d + 1) m is ls st Q) := wp_cv [a1, a2, a3] mi_50
theorem mi_51 : zmi 51 = (2, 1, 5, 2) := rfl
theorem rk_51 : zrk 51 = 2 := rfl
theorem en_51 {a0 a1 : zV} : CallP d 51 [a0, a1] im Q ↔ wp none d 51 (zpg 51 0) [a0, a1] [] im Q := Iff.rfl
theorem cw_51 {a1 : zV} : wp x (d + 1) m (.invokedynamic 51 :: is) ls (a1 :: .inr (some o) :: st) im Q ↔ K0[o]? = some (8, 0) ∧ st.length ≤ 8 ∧ CallP d 51 [.inr (some o), a1] im (KT x (d + 1) m is ls st Q) := wp_cv [a1] mi_51
theorem mi_52 : zmi 52 = (2, 1, 5, 2) := rfl
theorem rk_52 : zrk 52 = 2 := rfl
theorem en_52 {a0 a1 : zV} : CallP d 52 [a0, a1] im Q ↔ wp none d 52 (zpg 52 0) [a0, a1] [] im Q := Iff.rfl
theorem cw_52 {a1 : zV} : wp x (d + 1) m (.invokedynamic 52 :: is) ls (a1 :: .inr (some o) :: st) im Q ↔ K0[o]? = some (8, 0) ∧ st.length ≤ 8 ∧ CallP d 52 [.inr (some o), a1] im (KT x (d + 1) m is ls st Q) := wp_cv [a1] mi_52
theorem mi_53 : zmi 53 = (2, 1, 5, 2) := rfl
theorem rk_53 : zrk 53 = 2 := rfl
theorem en_53 {a0 a1 : zV} : CallP d 53 [a0, a1] im Q ↔ wp none d 53 (zpg 53 0) [a0, a1] [] im Q := Iff.rfl
theorem cw_53 {a1 : zV} : wp x (d + 1) m (.invokedynamic 53 :: is) ls (a1 :: .inr (some o) :: st) im Q ↔ K0[o]? = some (8, 0) ∧ st.length ≤ 8 ∧ CallP d 53 [.inr (some o), a1] im (KT x (d + 1) m is ls st Q) := wp_cv [a1] mi_53
theorem mi_54 : zmi 54 = (2, 1, 5, 2) := rfl
theorem rk_54 : zrk 54 = 2 := rfl
theorem en_54 {a0 a1 : zV} : CallP d 54 [a0, a1] im Q ↔ wp none d 54 (zpg 54 0) [a0, a1] [] im Q := Iff.rfl
theorem cw_54 {a1 : zV} : wp x (d + 1) m (.invokedynamic 54 :: is) ls (a1 :: .inr (some o) :: st) im Q ↔ K0[o]? = some (8, 0) ∧ st.length ≤ 8 ∧ CallP d 54 [.inr (some o), a1] im (KT x (d + 1) m is ls st Q) := wp_cv [a1] mi_54
theorem mi_55 : zmi 55 = (2, 1, 5, 2) := rfl
theorem rk_55 : zrk 55 = 2 := rfl
theorem en_55 {a0 a1 : zV} : CallP d 55 [a0, a1] im Q ↔ wp none d 55 (zpg 55 0) [a0, a1] [] im Q := Iff.rfl
theorem cw_55 {a1 : zV} : wp x (d + 1) m (.invokedynamic 55 :: is) ls (a1 :: .inr (some o) :: st) im Q ↔ K0[o]? = some (8, 0) ∧ st.length ≤ 8 ∧ CallP d 55 [.inr (some o), a1] im (KT x (d + 1) m is ls st Q) := wp_cv [a1] mi_55
theorem mi_56 : zmi 56 = (2, 1, 5, 2) := rfl
theorem rk_56 : zrk 56 = 2 := rfl
theorem en_56 {a0 a1 : zV} : CallP d 56 [a0, a1] im Q ↔ wp none d 56 (zpg 56 0) [a0, a1] [] im Q := Iff.rfl
theorem cw_56 {a1 : zV} : wp x (d + 1) m (.invokedynamic 56 :: is) ls (a1 :: .inr (some o) :: st) im Q ↔ K0[o]? = some (8, 0) ∧ st.length ≤ 8 ∧ CallP d 56 [.inr (some o), a1] im (KT x (d + 1) m is ls st Q) := wp_cv [a1] mi_56
theorem mi_57 : zmi 57 = (2, 1, 5, 2) := rfl
theorem rk_57 : zrk 57 = 1 := rfl
theorem en_57 {a0 a1 : zV} : CallP d 57 [a0, a1] im Q ↔ wp none d 57 (zpg 57 0) [a0, a1] [] im Q := Iff.rfl
theorem cw_57 {a1 : zV} : wp x (d + 1) m (.invokedynamic 57 :: is) ls (a1 :: .inr (some o) :: st) im Q ↔ K0[o]? = some (8, 0) ∧ st.length ≤ 8 ∧ CallP d 57 [.inr (some o), a1] im (KT x (d + 1) m is ls st Q) := wp_cv [a1] mi_57
theorem mi_58 : zmi 58 = (2, 1, 5, 2) := rfl
theorem rk_58 : zrk 58 = 1 := rfl
theorem en_58 {a0 a1 : zV} : CallP d 58 [a0, a1] im Q ↔ wp none d 58 (zpg 58 0) [a0, a1] [] im Q := Iff.rfl
theorem cw_58 {a1 : zV} : wp x (d + 1) m (.invokedynamic 58 :: is) ls (a1 :: .inr (some o) :: st) im Q ↔ K0[o]? = some (8, 0) ∧ st.length ≤ 8 ∧ CallP d 58 [.inr (some o), a1] im (KT x (d + 1) m is ls st Q) := wp_cv [a1] mi_58
theorem mi_59 : zmi 59 = (3, 1, 5, 3) := rfl
theorem rk_59 : zrk 59 = 1 := rfl
theorem en_59 {a0 a1 a2 : zV} : CallP d 59 [a0, a1, a2] im Q ↔ wp none d 59 (zpg 59 0) [a0, a1, a2] [] im Q := Iff.rfl
theorem cw_59 {a1 a2 : zV} : wp x (d + 1) m (.invokedynamic 59 :: is) ls (a2 :: a1 :: .inr (some o) :: st) im Q ↔ K0[o]? = some (8, 0) ∧ st.length ≤ 8 ∧ CallP d 59 [.inr (some o), a1, a2] im (KT x (d + 1) m is ls st Q) := wp_cv [a1, a2] mi_59
theorem mi_60 : zmi 60 = (3, 1, 5, 3) := rfl
theorem rk_60 : zrk 60 = 1 := rfl
theorem en_60 {a0 a1 a2 : zV} : CallP d 60 [a0, a1, a2] im Q ↔ wp none d 60 (zpg 60 0) [a0, a1, a2] [] im Q := Iff.rfl
theorem cw_60 {a1 a2 : zV} : wp x (d + 1) m (.invokedynamic 60 :: is) ls (a2 :: a1 :: .inr (some o) :: st) im Q ↔ K0[o]? = some (8, 0) ∧ st.length ≤ 8 ∧ CallP d 60 [.inr (some o), a1, a2] im (KT x (d + 1) m is ls st Q) := wp_cv [a1, a2] mi_60
theorem mi_61 : zmi 61 = (2, 1, 5, 2) := rfl
theorem rk_61 : zrk 61 = 1 := rfl
theorem en_61 {a0 a1 : zV} : CallP d 61 [a0, a1] im Q ↔ wp none d 61 (zpg 61 0) [a0, a1] [] im Q := Iff.rfl
theorem cw_61 {a1 : zV} : wp x (d + 1) m (.invokedynamic 61 :: is) ls (a1 :: .inr (some o) :: st) im Q ↔ K0[o]? = some (8, 0) ∧ st.length ≤ 8 ∧ CallP d 61 [.inr (some o), a1] im (KT x (d + 1) m is ls st Q) := wp_cv [a1] mi_61
theorem mi_62 : zmi 62 = (2, 1, 5, 2) := rfl
theorem rk_62 : zrk 62 = 1 := rfl
theorem en_62 {a0 a1 : zV} : CallP d 62 [a0, a1] im Q ↔ wp none d 62 (zpg 62 0) [a0, a1] [] im Q := Iff.rfl
theorem cw_62 {a1 : zV} : wp x (d + 1) m (.invokedynamic 62 :: is) ls (a1 :: .inr (some o) :: st) im Q ↔ K0[o]? = some (8, 0) ∧ st.length ≤ 8 ∧ CallP d 62 [.inr (some o), a1] im (KT x (d + 1) m is ls st Q) := wp_cv [a1] mi_62
theorem mi_63 : zmi 63 = (3, 1, 5, 5) := rfl
theorem rk_63 : zrk 63 = 2 := rfl
theorem en_63 {a0 a1 a2 : zV} : CallP d 63 [a0, a1, a2] im Q ↔ wp none d 63 (zpg 63 0) [a0, a1, a2, .inr none, .inr none] [] im Q := Iff.rfl
theorem cw_63 {a1 a2 : zV} : wp x (d + 1) m (.invokedynamic 63 :: is) ls (a2 :: a1 :: .inr (some o) :: st) im Q ↔ K0[o]? = some (8, 0) ∧ st.length ≤ 8 ∧ CallP d 63 [.inr (some o), a1, a2] im (KT x (d + 1) m is ls st Q) := wp_cv [a1, a2] mi_63
theorem mi_64 : zmi 64 = (3, 1, 5, 4) := rfl
theorem rk_64 : zrk 64 = 1 := rfl
theorem en_64 {a0 a1 a2 : zV} : CallP d 64 [a0, a1, a2] im Q ↔ wp none d 64 (zpg 64 0) [a0, a1, a2, .inr none] [] im Q := Iff.rfl
theorem cw_64 {a1 a2 : zV} : wp x (d + 1) m (.invokedynamic 64 :: is) ls (a2 :: a1 :: .inr (some o) :: st) im Q ↔ K0[o]? = some (8, 0) ∧ st.length ≤ 8 ∧ CallP d 64 [.inr (some o), a1, a2] im (KT x (d + 1) m is ls st Q) := wp_cv [a1, a2] mi_64
theorem mi_65 : zmi 65 = (1, 1, 5, 2) := rfl
theorem rk_65 : zrk 65 = 1 := rfl
theorem en_65 {a0 : zV} : CallP d 65 [a0] im Q ↔ wp none d 65 (zpg 65 0) [a0, .inr none] [] im Q := Iff.rfl
theorem cw_65 : wp x (d + 1) m (.invokedynamic 65 :: is) ls (.inr (some o) :: st) im Q ↔ K0[o]? = some (8, 0) ∧ st.length ≤ 8 ∧ CallP d 65 [.inr (some o)] im (KT x (d + 1) m is ls st Q) := wp_cv [] mi_65
theorem mi_66 : zmi 66 = (2, 1, 5, 4) := rfl
theorem rk_66 : zrk 66 = 1 := rfl
theorem en_66 {a0 a1 : zV} : CallP d 66 [a0, a1] im Q ↔ wp none d 66 (zpg 66 0) [a0, a1, .inr none, .inr none] [] im Q := Iff.rfl
theorem cw_66 {a1 : zV} : wp x (d + 1) m (.invokedynamic 66 :: is) ls (a1 :: .inr (some o) :: st) im Q ↔ K0[o]? = some (8, 0) ∧ st.length ≤ 8 ∧ CallP d 66 [.inr (some o), a1] im (KT x (d + 1) m is ls st Q) := wp_cv [a1] mi_66
theorem mi_67 : zmi 67 = (3, 1, 5, 5) := rfl
theorem rk_67 : zrk 67 = 2 := rfl
theorem en_67 {a0 a1 a2 : zV} : CallP d 67 [a0, a1, a2] im Q ↔ wp none d 67 (zpg 67 0) [a0, a1, a2, .inr none, .inr none] [] im Q := Iff.rfl
theorem cw_67 {a1 a2 : zV} : wp x (d + 1) m (.invokedynamic 67 :: is) ls (a2 :: a1 :: .inr (some o) :: st) im Q ↔ K0[o]? = some (8, 0) ∧ st.length ≤ 8 ∧ CallP d 67 [.inr (some o), a1, a2] im (KT x (d + 1) m is ls st Q) := wp_cv [a1, a2] mi_67
theorem mi_68 : zmi 68 = (2, 1, 5, 4) := rfl
theorem rk_68 : zrk 68 = 1 := rfl
theorem en_68 {a0 a1 : zV} : CallP d 68 [a0, a1] im Q ↔ wp none d 68 (zpg 68 0) [a0, a1, .inr none, .inr none] [] im Q := Iff.rfl
theorem cw_68 {a1 : zV} : wp x (d + 1) m (.invokedynamic 68 :: is) ls (a1 :: .inr (some o) :: st) im Q ↔ K0[o]? = some (8, 0) ∧ st.length ≤ 8 ∧ CallP d 68 [.inr (some o), a1] im (KT x (d + 1) m is ls st Q) := wp_cv [a1] mi_68
theorem mi_69 : zmi 69 = (4, 1, 5, 4) := rfl
theorem rk_69 : zrk 69 = 2 := rfl
theorem en_69 {a0 a1 a2 a3 : zV} : CallP d 69 [a0, a1, a2, a3] im Q ↔ wp none d 69 (zpg 69 0) [a0, a1, a2, a3] [] im Q := Iff.rfl
theorem cw_69 {a1 a2 a3 : zV} : wp x (d + 1) m (.invokedynamic 69 :: is) ls (a3 :: a2 :: a1 :: .inr (some o) :: st) im Q ↔ K0[o]? = some (8, 0) ∧ st.length ≤ 8 ∧ CallP d 69 [.inr (some o), a1, a2, a3] im (KT x (d + 1) m is ls st Q) := wp_cv [a1, a2, a3] mi_69
theorem mi_70 : zmi 70 = (5, 1, 5, 5) := rfl
theorem rk_70 : zrk 70 = 0 := rfl
theorem en_70 {a0 a1 a2 a3 a4 : zV} : CallP d 70 [a0, a1, a2, a3, a4] im Q ↔ wp none d 70 (zpg 70 0) [a0, a1, a2, a3, a4] [] im Q := Iff.rfl
theorem cw_70 {a1 a2 a3 a4 : zV} : wp x (d + 1) m (.invokedynamic 70 :: is) ls (a4 :: a3 :: a2 :: a1 :: .inr (some o) :: st) im Q ↔ K0[o]? = some (8, 0) ∧ st.length ≤ 8 ∧ CallP d 70 [.inr (some o), a1, a2, a3, a4] im (KT x (d + 1) m is ls st Q) := wp_cv [a1, a2, a3, a4] mi_70
theorem mi_71 : zmi 71 = (3, 0, 5, 5) := rfl
theorem rk_71 : zrk 71 = 0 := rfl
theorem en_71 {a0 a1 a2 : zV} : CallP d 71 [a0, a1, a2] im Q ↔ wp none d 71 (zpg 71 0) [a0, a1, a2, .inr none, .inr none] [] im Q := Iff.rfl
theorem cw_71 {a0 a1 a2 : zV} : wp x (d + 1) m (.invokedynamic 71 :: is) ls (a2 :: a1 :: a0 :: st) im Q ↔ st.length ≤ 8 ∧ CallP d 71 [a0, a1, a2] im (KT x (d + 1) m is ls st Q) := wp_cs [a0, a1, a2] mi_71
theorem mi_72 : zmi 72 = (2, 1, 5, 6) := rfl
theorem rk_72 : zrk 72 = 1 := rfl
theorem en_72 {a0 a1 : zV} : CallP d 72 [a0, a1] im Q ↔ wp none d 72 (zpg 72 0) [a0, a1, .inr none, .inr none, .inr none, .inr none] [] im Q := Iff.rfl
theorem cw_72 {a1 : zV} : wp x (d + 1) m (.invokedynamic 72 :: is) ls (a1 :: .inr (some o) :: st) im Q ↔ K0[o]? = some (8, 0) ∧ st.length ≤ 8 ∧ CallP d 72 [.inr (some o), a1] im (KT x (d + 1) m is ls st Q) := wp_cv [a1] mi_72
theorem mi_73 : zmi 73 = (2, 1, 5, 4) := rfl
theorem rk_73 : zrk 73 = 1 := rfl
theorem en_73 {a0 a1 : zV} : CallP d 73 [a0, a1] im Q ↔ wp none d 73 (zpg 73 0) [a0, a1, .inr none, .inr none] [] im Q := Iff.rfl
theorem cw_73 {a1 : zV} : wp x (d + 1) m (.invokedynamic 73 :: is) ls (a1 :: .inr (some o) :: st) im Q ↔ K0[o]? = some (8, 0) ∧ st.length ≤ 8 ∧ CallP d 73 [.inr (some o), a1] im (KT x (d + 1) m is ls st Q) := wp_cv [a1] mi_73
theorem mi_74 : zmi 74 = (1, 1, 5, 2) := rfl
theorem rk_74 : zrk 74 = 0 := rfl
theorem en_74 {a0 : zV} : CallP d 74 [a0] im Q ↔ wp none d 74 (zpg 74 0) [a0, .inr none] [] im Q := Iff.rfl
theorem cw_74 : wp x (d + 1) m (.invokedynamic 74 :: is) ls (.inr (some o) :: st) im Q ↔ K0[o]? = some (8, 0) ∧ st.length ≤ 8 ∧ CallP d 74 [.inr (some o)] im (KT x (d + 1) m is ls st Q) := wp_cv [] mi_74
theorem mi_75 : zmi 75 = (2, 1, 5, 3) := rfl
theorem rk_75 : zrk 75 = 0 := rfl
theorem en_75 {a0 a1 : zV} : CallP d 75 [a0, a1] im Q ↔ wp none d 75 (zpg 75 0) [a0, a1, .inr none] [] im Q := Iff.rfl
theorem cw_75 {a1 : zV} : wp x (d + 1) m (.invokedynamic 75 :: is) ls (a1 :: .inr (some o) :: st) im Q ↔ K0[o]? = some (8, 0) ∧ st.length ≤ 8 ∧ CallP d 75 [.inr (some o), a1] im (KT x (d + 1) m is ls st Q) := wp_cv [a1] mi_75
theorem mi_76 : zmi 76 = (3, 1, 5, 5) := rfl
theorem rk_76 : zrk 76 = 1 := rfl
theorem en_76 {a0 a1 a2 : zV} : CallP d 76 [a0, a1, a2] im Q ↔ wp none d 76 (zpg 76 0) [a0, a1, a2, .inr none, .inr none] [] im Q := Iff.rfl
theorem cw_76 {a1 a2 : zV} : wp x (d + 1) m (.invokedynamic 76 :: is) ls (a2 :: a1 :: .inr (some o) :: st) im Q ↔ K0[o]? = some (8, 0) ∧ st.length ≤ 8 ∧ CallP d 76 [.inr (some o), a1, a2] im (KT x (d + 1) m is ls st Q) := wp_cv [a1, a2] mi_76
theorem mi_77 : zmi 77 = (3, 1, 5, 8) := rfl
theorem rk_77 : zrk 77 = 1 := rfl
theorem en_77 {a0 a1 a2 : zV} : CallP d 77 [a0, a1, a2] im Q ↔ wp none d 77 (zpg 77 0) [a0, a1, a2, .inr none, .inr none, .inr none, .inr none, .inr none] [] im Q := Iff.rfl
theorem cw_77 {a1 a2 : zV} : wp x (d + 1) m (.invokedynamic 77 :: is) ls (a2 :: a1 :: .inr (some o) :: st) im Q ↔ K0[o]? = some (8, 0) ∧ st.length ≤ 8 ∧ CallP d 77 [.inr (some o), a1, a2] im (KT x (d + 1) m is ls st Q) := wp_cv [a1, a2] mi_77
theorem mi_78 : zmi 78 = (1, 1, 5, 5) := rfl
theorem rk_78 : zrk 78 = 1 := rfl
theorem en_78 {a0 : zV} : CallP d 78 [a0] im Q ↔ wp none d 78 (zpg 78 0) [a0, .inr none, .inr none, .inr none, .inr none] [] im Q := Iff.rfl
theorem cw_78 : wp x (d + 1) m (.invokedynamic 78 :: is) ls (.inr (some o) :: st) im Q ↔ K0[o]? = some (8, 0) ∧ st.length ≤ 8 ∧ CallP d 78 [.inr (some o)] im (KT x (d + 1) m is ls st Q) := wp_cv [] mi_78
theorem mi_79 : zmi 79 = (2, 1, 5, 2) := rfl
theorem rk_79 : zrk 79 = 0 := rfl
theorem en_79 {a0 a1 : zV} : CallP d 79 [a0, a1] im Q ↔ wp none d 79 (zpg 79 0) [a0, a1] [] im Q := Iff.rfl
theorem cw_79 {a1 : zV} : wp x (d + 1) m (.invokedynamic 79 :: is) ls (a1 :: .inr (some o) :: st) im Q ↔ K0[o]? = some (8, 0) ∧ st.length ≤ 8 ∧ CallP d 79 [.inr (some o), a1] im (KT x (d + 1) m is ls st Q) := wp_cv [a1] mi_79
theorem mi_80 : zmi 80 = (1, 1, 5, 3) := rfl
theorem rk_80 : zrk 80 = 1 := rfl
theorem en_80 {a0 : zV} : CallP d 80 [a0] im Q ↔ wp none d 80 (zpg 80 0) [a0, .inr none, .inr none] [] im Q := Iff.rfl
theorem cw_80 : wp x (d + 1) m (.invokedynamic 80 :: is) ls (.inr (some o) :: st) im Q ↔ K0[o]? = some (8, 0) ∧ st.length ≤ 8 ∧ CallP d 80 [.inr (some o)] im (KT x (d + 1) m is ls st Q) := wp_cv [] mi_80
theorem mi_81 : zmi 81 = (1, 1, 5, 3) := rfl
theorem rk_81 : zrk 81 = 1 := rfl
theorem en_81 {a0 : zV} : CallP d 81 [a0] im Q ↔ wp none d 81 (zpg 81 0) [a0, .inr none, .inr none] [] im Q := Iff.rfl
theorem cw_81 : wp x (d + 1) m (.invokedynamic 81 :: is) ls (.inr (some o) :: st) im Q ↔ K0[o]? = some (8, 0) ∧ st.length ≤ 8 ∧ CallP d 81 [.inr (some o)] im (KT x (d + 1) m is ls st Q) := wp_cv [] mi_81
theorem mi_82 : zmi 82 = (1, 1, 5, 3) := rfl
theorem rk_82 : zrk 82 = 1 := rfl
theorem en_82 {a0 : zV} : CallP d 82 [a0] im Q ↔ wp none d 82 (zpg 82 0) [a0, .inr none, .inr none] [] im Q := Iff.rfl
theorem cw_82 : wp x (d + 1) m (.invokedynamic 82 :: is) ls (.inr (some o) :: st) im Q ↔ K0[o]? = some (8, 0) ∧ st.length ≤ 8 ∧ CallP d 82 [.inr (some o)] im (KT x (d + 1) m is ls st Q) := wp_cv [] mi_82
theorem mi_83 : zmi 83 = (1, 1, 5, 3) := rfl
theorem rk_83 : zrk 83 = 1 := rfl
theorem en_83 {a0 : zV} : CallP d 83 [a0] im Q ↔ wp none d 83 (zpg 83 0) [a0, .inr none, .inr none] [] im Q := Iff.rfl
theorem cw_83 : wp x (d + 1) m (.invokedynamic 83 :: is) ls (.inr (some o) :: st) im Q ↔ K0[o]? = some (8, 0) ∧ st.length ≤ 8 ∧ CallP d 83 [.inr (some o)] im (KT x (d + 1) m is ls st Q) := wp_cv [] mi_83
theorem mi_84 : zmi 84 = (1, 2, 6, 1) := rfl
theorem rk_84 : zrk 84 = 0 := rfl
theorem en_84 {a0 : zV} : CallP d 84 [a0] im Q ↔ wp none d 84 (zpg 84 0) [a0] [] im Q := Iff.rfl
theorem mi_85 : zmi 85 = (3, 1, 6, 3) := rfl
theorem rk_85 : zrk 85 = 1 := rfl
theorem en_85 {a0 a1 a2 : zV} : CallP d 85 [a0, a1, a2] im Q ↔ wp none d 85 (zpg 85 0) [a0, a1, a2] [] im Q := Iff.rfl
theorem cw_85 {a1 a2 : zV} : wp x (d + 1) m (.invokedynamic 85 :: is) ls (a2 :: a1 :: .inr (some o) :: st) im Q ↔ K0[o]? = some (9, 0) ∧ st.length ≤ 8 ∧ CallP d 85 [.inr (some o), a1, a2] im (KT x (d + 1) m is ls st Q) := wp_cv [a1, a2] mi_85
theorem mi_86 : zmi 86 = (5, 1, 6, 5) := rfl
theorem rk_86 : zrk 86 = 1 := rfl
theorem en_86 {a0 a1 a2 a3 a4 : zV} : CallP d 86 [a0, a1, a2, a3, a4] im Q ↔ wp none d 86 (zpg 86 0) [a0, a1, a2, a3, a4] [] im Q := Iff.rfl
theorem cw_86 {a1 a2 a3 a4 : zV} : wp x (d + 1) m (.invokedynamic 86 :: is) ls (a4 :: a3 :: a2 :: a1 :: .inr (some o) :: st) im Q ↔ K0[o]? = some (9, 0) ∧ st.length ≤ 8 ∧ CallP d 86 [.inr (some o), a1, a2, a3, a4] im (KT x (d + 1) m is ls st Q) := wp_cv [a1, a2, a3, a4] mi_86
theorem mi_87 : zmi 87 = (6, 1, 6, 8) := rfl
theorem rk_87 : zrk 87 = 1 := rfl
theorem en_87 {a0 a1 a2 a3 a4 a5 : zV} : CallP d 87 [a0, a1, a2, a3, a4, a5] im Q ↔ wp none d 87 (zpg 87 0) [a0, a1, a2, a3, a4, a5, .inr none, .inr none] [] im Q := Iff.rfl
theorem cw_87 {a1 a2 a3 a4 a5 : zV} : wp x (d + 1) m (.invokedynamic 87 :: is) ls (a5 :: a4 :: a3 :: a2 :: a1 :: .inr (some o) :: st) im Q ↔ K0[o]? = some (9, 0) ∧ st.length ≤ 8 ∧ CallP d 87 [.inr (some o), a1, a2, a3, a4, a5] im (KT x (d + 1) m is ls st Q) := wp_cv [a1, a2, a3, a4, a5] mi_87
theorem mi_88 : zmi 88 = (4, 1, 6, 6) := rfl
theorem rk_88 : zrk 88 = 1 := rfl
theorem en_88 {a0 a1 a2 a3 : zV} : CallP d 88 [a0, a1, a2, a3] im Q ↔ wp none d 88 (zpg 88 0) [a0, a1, a2, a3, .inr none, .inr none] [] im Q := Iff.rfl
theorem cw_88 {a1 a2 a3 : zV} : wp x (d + 1) m (.invokedynamic 88 :: is) ls (a3 :: a2 :: a1 :: .inr (some o) :: st) im Q ↔ K0[o]? = some (9, 0) ∧ st.length ≤ 8 ∧ CallP d 88 [.inr (some o), a1, a2, a3] im (KT x (d + 1) m is ls st Q) := wp_cv [a1, a2, a3] mi_88
theorem mi_89 : zmi 89 = (2, 1, 6, 4) := rfl
theorem rk_89 : zrk 89 = 1 := rfl
theorem en_89 {a0 a1 : zV} : CallP d 89 [a0, a1] im Q ↔ wp none d 89 (zpg 89 0) [a0, a1, .inr none, .inr none] [] im Q := Iff.rfl
theorem cw_89 {a1 : zV} : wp x (d + 1) m (.invokedynamic 89 :: is) ls (a1 :: .inr (some o) :: st) im Q ↔ K0[o]? = some (9, 0) ∧ st.length ≤ 8 ∧ CallP d 89 [.inr (some o), a1] im (KT x (d + 1) m is ls st Q) := wp_cv [a1] mi_89
theorem mi_90 : zmi 90 = (4, 1, 6, 5) := rfl
theorem rk_90 : zrk 90 = 2 := rfl
theorem en_90 {a0 a1 a2 a3 : zV} : CallP d 90 [a0, a1, a2, a3] im Q ↔ wp none d 90 (zpg 90 0) [a0, a1, a2, a3, .inr none] [] im Q := Iff.rfl
theorem cw_90 {a1 a2 a3 : zV} : wp x (d + 1) m (.invokedynamic 90 :: is) ls (a3 :: a2 :: a1 :: .inr (some o) :: st) im Q ↔ K0[o]? = some (9, 0) ∧ st.length ≤ 8 ∧ CallP d 90 [.inr (some o), a1, a2, a3] im (KT x (d + 1) m is ls st Q) := wp_cv [a1, a2, a3] mi_90
theorem mi_91 : zmi 91 = (3, 1, 6, 4) := rfl
theorem rk_91 : zrk 91 = 2 := rfl
theorem en_91 {a0 a1 a2 : zV} : CallP d 91 [a0, a1, a2] im Q ↔ wp none d 91 (zpg 91 0) [a0, a1, a2, .inr none] [] im Q := Iff.rfl
theorem cw_91 {a1 a2 : zV} : wp x (d + 1) m (.invokedynamic 91 :: is) ls (a2 :: a1 :: .inr (some o) :: st) im Q ↔ K0[o]? = some (9, 0) ∧ st.length ≤ 8 ∧ CallP d 91 [.inr (some o), a1, a2] im (KT x (d + 1) m is ls st Q) := wp_cv [a1, a2] mi_91
theorem mi_92 : zmi 92 = (1, 1, 6, 2) := rfl
theorem rk_92 : zrk 92 = 1 := rfl
theorem en_92 {a0 : zV} : CallP d 92 [a0] im Q ↔ wp none d 92 (zpg 92 0) [a0, .inr none] [] im Q := Iff.rfl
theorem cw_92 : wp x (d + 1) m (.invokedynamic 92 :: is) ls (.inr (some o) :: st) im Q ↔ K0[o]? = some (9, 0) ∧ st.length ≤ 8 ∧ CallP d 92 [.inr (some o)] im (KT x (d + 1) m is ls st Q) := wp_cv [] mi_92
theorem mi_93 : zmi 93 = (2, 1, 6, 4) := rfl
theorem rk_93 : zrk 93 = 1 := rfl
theorem en_93 {a0 a1 : zV} : CallP d 93 [a0, a1] im Q ↔ wp none d 93 (zpg 93 0) [a0, a1, .inr none, .inr none] [] im Q := Iff.rfl
theorem cw_93 {a1 : zV} : wp x (d + 1) m (.invokedynamic 93 :: is) ls (a1 :: .inr (some o) :: st) im Q ↔ K0[o]? = some (9, 0) ∧ st.length ≤ 8 ∧ CallP d 93 [.inr (some o), a1] im (KT x (d + 1) m is ls st Q) := wp_cv [a1] mi_93
theorem mi_94 : zmi 94 = (2, 1, 6, 4) := rfl
theorem rk_94 : zrk 94 = 1 := rfl
theorem en_94 {a0 a1 : zV} : CallP d 94 [a0, a1] im Q ↔ wp none d 94 (zpg 94 0) [a0, a1, .inr none, .inr none] [] im Q := Iff.rfl
theorem cw_94 {a1 : zV} : wp x (d + 1) m (.invokedynamic 94 :: is) ls (a1 :: .inr (some o) :: st) im Q ↔ K0[o]? = some (9, 0) ∧ st.length ≤ 8 ∧ CallP d 94 [.inr (some o), a1] im (KT x (d + 1) m is ls st Q) := wp_cv [a1] mi_94
theorem mi_95 : zmi 95 = (2, 1, 6, 4) := rfl
theorem rk_95 : zrk 95 = 1 := rfl
theorem en_95 {a0 a1 : zV} : CallP d 95 [a0, a1] im Q ↔ wp none d 95 (zpg 95 0) [a0, a1, .inr none, .inr none] [] im Q := Iff.rfl
theorem cw_95 {a1 : zV} : wp x (d + 1) m (.invokedynamic 95 :: is) ls (a1 :: .inr (some o) :: st) im Q ↔ K0[o]? = some (9, 0) ∧ st.length ≤ 8 ∧ CallP d 95 [.inr (some o), a1] im (KT x (d + 1) m is ls st Q) := wp_cv [a1] mi_95
theorem mi_96 : zmi 96 = (2, 1, 6, 2) := rfl
theorem rk_96 : zrk 96 = 1 := rfl
theorem en_96 {a0 a1 : zV} : CallP d 96 [a0, a1] im Q ↔ wp none d 96 (zpg 96 0) [a0, a1] [] im Q := Iff.rfl
theorem cw_96 {a1 : zV} : wp x (d + 1) m (.invokedynamic 96 :: is) ls (a1 :: .inr (some o) :: st) im Q ↔ K0[o]? = some (9, 0) ∧ st.length ≤ 8 ∧ CallP d 96 [.inr (some o), a1] im (KT x (d + 1) m is ls st Q) := wp_cv [a1] mi_96
theorem mi_97 : zmi 97 = (2, 1, 6, 3) := rfl
theorem rk_97 : zrk 97 = 1 := rfl
theorem en_97 {a0 a1 : zV} : CallP d 97 [a0, a1] im Q ↔ wp none d 97 (zpg 97 0) [a0, a1, .inr none] [] im Q := Iff.rfl
theorem cw_97 {a1 : zV} : wp x (d + 1) m (.invokedynamic 97 :: is) ls (a1 :: .inr (some o) :: st) im Q ↔ K0[o]? = some (9, 0) ∧ st.length ≤ 8 ∧ CallP d 97 [.inr (some o), a1] im (KT x (d + 1) m is ls st Q) := wp_cv [a1] mi_97
theorem mi_98 : zmi 98 = (3, 1, 6, 4) := rfl
theorem rk_98 : zrk 98 = 1 := rfl
theorem en_98 {a0 a1 a2 : zV} : CallP d 98 [a0, a1, a2] im Q ↔ wp none d 98 (zpg 98 0) [a0, a1, a2, .inr none] [] im Q := Iff.rfl
theorem cw_98 {a1 a2 : zV} : wp x (d + 1) m (.invokedynamic 98 :: is) ls (a2 :: a1 :: .inr (some o) :: st) im Q ↔ K0[o]? = some (9, 0) ∧ st.length ≤ 8 ∧ CallP d 98 [.inr (some o), a1, a2] im (KT x (d + 1) m is ls st Q) := wp_cv [a1, a2] mi_98
theorem mi_99 : zmi 99 = (4, 1, 6, 5) := rfl
theorem rk_99 : zrk 99 = 1 := rfl
theorem en_99 {a0 a1 a2 a3 : zV} : CallP d 99 [a0, a1, a2, a3] im Q ↔ wp none d 99 (zpg 99 0) [a0, a1, a2, a3, .inr none] [] im Q := Iff.rfl
theorem cw_99 {a1 a2 a3 : zV} : wp x (d + 1) m (.invokedynamic 99 :: is) ls (a3 :: a2 :: a1 :: .inr (some o) :: st) im Q ↔ K0[o]? = some (9, 0) ∧ st.length ≤ 8 ∧ CallP d 99 [.inr (some o), a1, a2, a3] im (KT x (d + 1) m is ls st Q) := wp_cv [a1, a2, a3] mi_99
theorem mi_100 : zmi 100 = (3, 1, 6, 4) := rfl
theorem rk_100 : zrk 100 = 1 := rfl
theorem en_100 {a0 a1 a2 : zV} : CallP d 100 [a0, a1, a2] im Q ↔ wp none d 100 (zpg 100 0) [a0, a1, a2, .inr none] [] im Q := Iff.rfl
theorem cw_100 {a1 a2 : zV} : wp x (d + 1) m (.invokedynamic 100 :: is) ls (a2 :: a1 :: .inr (some o) :: st) im Q ↔ K0[o]? = some (9, 0) ∧ st.length ≤ 8 ∧ CallP d 100 [.inr (some o), a1, a2] im (KT x (d + 1) m is ls st Q) := wp_cv [a1, a2] mi_100
theorem mi_101 : zmi 101 = (2, 1, 6, 4) := rfl
theorem rk_101 : zrk 101 = 1 := rfl
theorem en_101 {a0 a1 : zV} : CallP d 101 [a0, a1] im Q ↔ wp none d 101 (zpg 101 0) [a0, a1, .inr none, .inr none] [] im Q := Iff.rfl
theorem cw_101 {a1 : zV} : wp x (d + 1) m (.invokedynamic 101 :: is) ls (a1 :: .inr (some o) :: st) im Q ↔ K0[o]? = some (9, 0) ∧ st.length ≤ 8 ∧ CallP d 101 [.inr (some o), a1] im (KT x (d + 1) m is ls st Q) := wp_cv [a1] mi_101
theorem mi_102 : zmi 102 = (3, 1, 6, 6) := rfl
theorem rk_102 : zrk 102 = 1 := rfl
theorem en_102 {a0 a1 a2 : zV} : CallP d 102 [a0, a1, a2] im Q ↔ wp none d 102 (zpg 102 0) [a0, a1, a2, .inr none, .inr none, .inr none] [] im Q := Iff.rfl
theorem cw_102 {a1 a2 : zV} : wp x (d + 1) m (.invokedynamic 102 :: is) ls (a2 :: a1 :: .inr (some o) :: st) im Q ↔ K0[o]? = some (9, 0) ∧ st.length ≤ 8 ∧ CallP d 102 [.inr (some o), a1, a2] im (KT x (d + 1) m is ls st Q) := wp_cv [a1, a2] mi_102
theorem mi_103 : zmi 103 = (2, 1, 6, 2) := rfl
theorem rk_103 : zrk 103 = 1 := rfl
theorem en_103 {a0 a1 : zV} : CallP d 103 [a0, a1] im Q ↔ wp none d 103 (zpg 103 0) [a0, a1] [] im Q := Iff.rfl
theorem cw_103 {a1 : zV} : wp x (d + 1) m (.invokedynamic 103 :: is) ls (a1 :: .inr (some o) :: st) im Q ↔ K0[o]? = some (9, 0) ∧ st.length ≤ 8 ∧ CallP d 103 [.inr (some o), a1] im (KT x (d + 1) m is ls st Q) := wp_cv [a1] mi_103
theorem mi_104 : zmi 104 = (3, 1, 6, 3) := rfl
theorem rk_104 : zrk 104 = 1 := rfl
theorem en_104 {a0 a1 a2 : zV} : CallP d 104 [a0, a1, a2] im Q ↔ wp none d 104 (zpg 104 0) [a0, a1, a2] [] im Q := Iff.rfl
theorem cw_104 {a1 a2 : zV} : wp x (d + 1) m (.invokedynamic 104 :: is) ls (a2 :: a1 :: .inr (some o) :: st) im Q ↔ K0[o]? = some (9, 0) ∧ st.length ≤ 8 ∧ CallP d 104 [.inr (some o), a1, a2] im (KT x (d + 1) m is ls st Q) := wp_cv [a1, a2] mi_104
theorem mi_105 : zmi 105 = (3, 1, 6, 4) := rfl
theorem rk_105 : zrk 105 = 1 := rfl
theorem en_105 {a0 a1 a2 : zV} : CallP d 105 [a0, a1, a2] im Q ↔ wp none d 105 (zpg 105 0) [a0, a1, a2, .inr none] [] im Q := Iff.rfl
theorem cw_105 {a1 a2 : zV} : wp x (d + 1) m (.invokedynamic 105 :: is) ls (a2 :: a1 :: .inr (some o) :: st) im Q ↔ K0[o]? = some (9, 0) ∧ st.length ≤ 8 ∧ CallP d 105 [.inr (some o), a1, a2] im (KT x (d + 1) m is ls st Q) := wp_cv [a1, a2] mi_105
theorem mi_106 : zmi 106 = (5, 1, 6, 7) := rfl
theorem rk_106 : zrk 106 = 1 := rfl
theorem en_106 {a0 a1 a2 a3 a4 : zV} : CallP d 106 [a0, a1, a2, a3, a4] im Q ↔ wp none d 106 (zpg 106 0) [a0, a1, a2, a3, a4, .inr none, .inr none] [] im Q := Iff.rfl
theorem cw_106 {a1 a2 a3 a4 : zV} : wp x (d + 1) m (.invokedynamic 106 :: is) ls (a4 :: a3 :: a2 :: a1 :: .inr (some o) :: st) im Q ↔ K0[o]? = some (9, 0) ∧ st.length ≤ 8 ∧ CallP d 106 [.inr (some o), a1, a2, a3, a4] im (KT x (d + 1) m is ls st Q) := wp_cv [a1, a2, a3, a4] mi_106
theorem mi_107 : zmi 107 = (2, 1, 6, 6) := rfl
theorem rk_107 : zrk 107 = 1 := rfl
theorem en_107 {a0 a1 : zV} : CallP d 107 [a0, a1] im Q ↔ wp none d 107 (zpg 107 0) [a0, a1, .inr none, .inr none, .inr none, .inr none] [] im Q := Iff.rfl
theorem cw_107 {a1 : zV} : wp x (d + 1) m (.invokedynamic 107 :: is) ls (a1 :: .inr (some o) :: st) im Q ↔ K0[o]? = some (9, 0) ∧ st.length ≤ 8 ∧ CallP d 107 [.inr (some o), a1] im (KT x (d + 1) m is ls st Q) := wp_cv [a1] mi_107
theorem mi_108 : zmi 108 = (4, 1, 6, 10) := rfl
theorem rk_108 : zrk 108 = 1 := rfl
theorem en_108 {a0 a1 a2 a3 : zV} : CallP d 108 [a0, a1, a2, a3] im Q ↔ wp none d 108 (zpg 108 0) [a0, a1, a2, a3, .inr none, .inr none, .inr none, .inr none, .inr none, .inr none] [] im Q := Iff.rfl
theorem cw_108 {a1 a2 a3 : zV} : wp x (d + 1) m (.invokedynamic 108 :: is) ls (a3 :: a2 :: a1 :: .inr (some o) :: st) im Q ↔ K0[o]? = some (9, 0) ∧ st.length ≤ 8 ∧ CallP d 108 [.inr (some o), a1, a2, a3] im (KT x (d + 1) m is ls st Q) := wp_cv [a1, a2, a3] mi_108
theorem mi_109 : zmi 109 = (2, 1, 6, 4) := rfl
theorem rk_109 : zrk 109 = 1 := rfl
theorem en_109 {a0 a1 : zV} : CallP d 109 [a0, a1] im Q ↔ wp none d 109 (zpg 109 0) [a0, a1, .inr none, .inr none] [] im Q := Iff.rfl
theorem cw_109 {a1 : zV} : wp x (d + 1) m (.invokedynamic 109 :: is) ls (a1 :: .inr (some o) :: st) im Q ↔ K0[o]? = some (9, 0) ∧ st.length ≤ 8 ∧ CallP d 109 [.inr (some o), a1] im (KT x (d + 1) m is ls st Q) := wp_cv [a1] mi_109
theorem mi_110 : zmi 110 = (2, 0, 6, 5) := rfl
theorem rk_110 : zrk 110 = 1 := rfl
theorem en_110 {a0 a1 : zV} : CallP d 110 [a0, a1] im Q ↔ wp none d 110 (zpg 110 0) [a0, a1, .inr none, .inr none, .inr none] [] im Q := Iff.rfl
theorem cw_110 {a0 a1 : zV} : wp x (d + 1) m (.invokedynamic 110 :: is) ls (a1 :: a0 :: st) im Q ↔ st.length ≤ 8 ∧ CallP d 110 [a0, a1] im (KT x (d + 1) m is ls st Q) := wp_cs [a0, a1] mi_110
theorem mi_111 : zmi 111 = (2, 0, 6, 4) := rfl
theorem rk_111 : zrk 111 = 1 := rfl
theorem en_111 {a0 a1 : zV} : CallP d 111 [a0, a1] im Q ↔ wp none d 111 (zpg 111 0) [a0, a1, .inr none, .inr none] [] im Q := Iff.rfl
theorem cw_111 {a0 a1 : zV} : wp x (d + 1) m (.invokedynamic 111 :: is) ls (a1 :: a0 :: st) im Q ↔ st.length ≤ 8 ∧ CallP d 111 [a0, a1] im (KT x (d + 1) m is ls st Q) := wp_cs [a0, a1] mi_111
theorem mi_112 : zmi 112 = (3, 1, 6, 3) := rfl
theorem rk_112 : zrk 112 = 1 := rfl
theorem en_112 {a0 a1 a2 : zV} : CallP d 112 [a0, a1, a2] im Q ↔ wp none d 112 (zpg 112 0) [a0, a1, a2] [] im Q := Iff.rfl
theorem cw_112 {a1 a2 : zV} : wp x (d + 1) m (.invokedynamic 112 :: is) ls (a2 :: a1 :: .inr (some o) :: st) im Q ↔ K0[o]? = some (9, 0) ∧ st.length ≤ 8 ∧ CallP d 112 [.inr (some o), a1, a2] im (KT x (d + 1) m is ls st Q) := wp_cv [a1, a2] mi_112
theorem mi_113 : zmi 113 = (3, 1, 6, 3) := rfl
theorem rk_113 : zrk 113 = 1 := rfl
theorem en_113 {a0 a1 a2 : zV} : CallP d 113 [a0, a1, a2] im Q ↔ wp none d 113 (zpg 113 0) [a0, a1, a2] [] im Q := Iff.rfl
theorem cw_113 {a1 a2 : zV} : wp x (d + 1) m (.invokedynamic 113 :: is) ls (a2 :: a1 :: .inr (some o) :: st) im Q ↔ K0[o]? = some (9, 0) ∧ st.length ≤ 8 ∧ CallP d 113 [.inr (some o), a1, a2] im (KT x (d + 1) m is ls st Q) := wp_cv [a1, a2] mi_113
theorem mi_114 : zmi 114 = (3, 1, 6, 5) := rfl
theorem rk_114 : zrk 114 = 2 := rfl
theorem en_114 {a0 a1 a2 : zV} : CallP d 114 [a0, a1, a2] im Q ↔ wp none d 114 (zpg 114 0) [a0, a1, a2, .inr none, .inr none] [] im Q := Iff.rfl
theorem cw_114 {a1 a2 : zV} : wp x (d + 1) m (.invokedynamic 114 :: is) ls (a2 :: a1 :: .inr (some o) :: st) im Q ↔ K0[o]? = some (9, 0) ∧ st.length ≤ 8 ∧ CallP d 114 [.inr (some o), a1, a2] im (KT x (d + 1) m is ls st Q) := wp_cv [a1, a2] mi_114
theorem mi_115 : zmi 115 = (3, 1, 6, 7) := rfl
theorem rk_115 : zrk 115 = 1 := rfl
theorem en_115 {a0 a1 a2 : zV} : CallP d 115 [a0, a1, a2] im Q ↔ wp none d 115 (zpg 115 0) [a0, a1, a2, .inr none, .inr none, .inr none, .inr none] [] im Q := Iff.rfl
theorem cw_115 {a1 a2 : zV} : wp x (d + 1) m (.invokedynamic 115 :: is) ls (a2 :: a1 :: .inr (some o) :: st) im Q ↔ K0[o]? = some (9, 0) ∧ st.length ≤ 8 ∧ CallP d 115 [.inr (some o), a1, a2] im (KT x (d + 1) m is ls st Q) := wp_cv [a1, a2] mi_115
theorem mi_116 : zmi 116 = (3, 1, 6, 7) := rfl
theorem rk_116 : zrk 116 = 1 := rfl
theorem en_116 {a0 a1 a2 : zV} : CallP d 116 [a0, a1, a2] im Q ↔ wp none d 116 (zpg 116 0) [a0, a1, a2, .inr none, .inr none, .inr none, .inr none] [] im Q := Iff.rfl
theorem cw_116 {a1 a2 : zV} : wp x (d + 1) m (.invokedynamic 116 :: is) ls (a2 :: a1 :: .inr (some o) :: st) im Q ↔ K0[o]? = some (9, 0) ∧ st.length ≤ 8 ∧ CallP d 116 [.inr (some o), a1, a2] im (KT x (d + 1) m is ls st Q) := wp_cv [a1, a2] mi_116
theorem mi_117 : zmi 117 = (3, 1, 6, 6) := rfl
theorem rk_117 : zrk 117 = 1 := rfl
theorem en_117 {a0 a1 a2 : zV} : CallP d 117 [a0, a1, a2] im Q ↔ wp none d 117 (zpg 117 0) [a0, a1, a2, .inr none, .inr none, .inr none] [] im Q := Iff.rfl
theorem cw_117 {a1 a2 : zV} : wp x (d + 1) m (.invokedynamic 117 :: is) ls (a2 :: a1 :: .inr (some o) :: st) im Q ↔ K0[o]? = some (9, 0) ∧ st.length ≤ 8 ∧ CallP d 117 [.inr (some o), a1, a2] im (KT x (d + 1) m is ls st Q) := wp_cv [a1, a2] mi_117
theorem mi_118 : zmi 118 = (3, 1, 6, 3) := rfl
theorem rk_118 : zrk 118 = 1 := rfl
theorem en_118 {a0 a1 a2 : zV} : CallP d 118 [a0, a1, a2] im Q ↔ wp none d 118 (zpg 118 0) [a0, a1, a2] [] im Q := Iff.rfl
theorem cw_118 {a1 a2 : zV} : wp x (d + 1) m (.invokedynamic 118 :: is) ls (a2 :: a1 :: .inr (some o) :: st) im Q ↔ K0[o]? = some (9, 0) ∧ st.length ≤ 8 ∧ CallP d 118 [.inr (some o), a1, a2] im (KT x (d + 1) m is ls st Q) := wp_cv [a1, a2] mi_118
theorem mi_119 : zmi 119 = (3, 1, 6, 7) := rfl
theorem rk_119 : zrk 119 = 1 := rfl
theorem en_119 {a0 a1 a2 : zV} : CallP d 119 [a0, a1, a2] im Q ↔ wp none d 119 (zpg 119 0) [a0, a1, a2, .inr none, .inr none, .inr none, .inr none] [] im Q := Iff.rfl
theorem cw_119 {a1 a2 : zV} : wp x (d + 1) m (.invokedynamic 119 :: is) ls (a2 :: a1 :: .inr (some o) :: st) im Q ↔ K0[o]? = some (9, 0) ∧ st.length ≤ 8 ∧ CallP d 119 [.inr (some o), a1, a2] im (KT x (d + 1) m is ls st Q) := wp_cv [a1, a2] mi_119
theorem mi_120 : zmi 120 = (4, 1, 6, 10) := rfl
theorem rk_120 : zrk 120 = 1 := rfl
theorem en_120 {a0 a1 a2 a3 : zV} : CallP d 120 [a0, a1, a2, a3] im Q ↔ wp none d 120 (zpg 120 0) [a0, a1, a2, a3, .inr none, .inr none, .inr none, .inr none, .inr none, .inr none] [] im Q := Iff.rfl
theorem cw_120 {a1 a2 a3 : zV} : wp x (d + 1) m (.invokedynamic 120 :: is) ls (a3 :: a2 :: a1 :: .inr (some o) :: st) im Q ↔ K0[o]? = some (9, 0) ∧ st.length ≤ 8 ∧ CallP d 120 [.inr (some o), a1, a2, a3] im (KT x (d + 1) m is ls st Q) := wp_cv [a1, a2, a3] mi_120
theorem mi_121 : zmi 121 = (3, 1, 6, 4) := rfl
theorem rk_121 : zrk 121 = 2 := rfl
theorem en_121 {a0 a1 a2 : zV} : CallP d 121 [a0, a1, a2] im Q ↔ wp none d 121 (zpg 121 0) [a0, a1, a2, .inr none] [] im Q := Iff.rfl
theorem cw_121 {a1 a2 : zV} : wp x (d + 1) m (.invokedynamic 121 :: is) ls (a2 :: a1 :: .inr (some o) :: st) im Q ↔ K0[o]? = some (9, 0) ∧ st.length ≤ 8 ∧ CallP d 121 [.inr (some o), a1, a2] im (KT x (d + 1) m is ls st Q) := wp_cv [a1, a2] mi_121
theorem mi_122 : zmi 122 = (2, 1, 6, 5) := rfl
theorem rk_122 : zrk 122 = 1 := rfl
theorem en_122 {a0 a1 : zV} : CallP d 122 [a0, a1] im Q ↔ wp none d 122 (zpg 122 0) [a0, a1, .inr none, .inr none, .inr none] [] im Q := Iff.rfl
theorem cw_122 {a1 : zV} : wp x (d + 1) m (.invokedynamic 122 :: is) ls (a1 :: .inr (some o) :: st) im Q ↔ K0[o]? = some (9, 0) ∧ st.length ≤ 8 ∧ CallP d 122 [.inr (some o), a1] im (KT x (d + 1) m is ls st Q) := wp_cv [a1] mi_122
theorem mi_123 : zmi 123 = (2, 1, 6, 5) := rfl
theorem rk_123 : zrk 123 = 1 := rfl
theorem en_123 {a0 a1 : zV} : CallP d 123 [a0, a1] im Q ↔ wp none d 123 (zpg 123 0) [a0, a1, .inr none, .inr none, .inr none] [] im Q := Iff.rfl
theorem cw_123 {a1 : zV} : wp x (d + 1) m (.invokedynamic 123 :: is) ls (a1 :: .inr (some o) :: st) im Q ↔ K0[o]? = some (9, 0) ∧ st.length ≤ 8 ∧ CallP d 123 [.inr (some o), a1] im (KT x (d + 1) m is ls st Q) := wp_cv [a1] mi_123
theorem mi_124 : zmi 124 = (4, 1, 6, 6) := rfl
theorem rk_124 : zrk 124 = 2 := rfl
theorem en_124 {a0 a1 a2 a3 : zV} : CallP d 124 [a0, a1, a2, a3] im Q ↔ wp none d 124 (zpg 124 0) [a0, a1, a2, a3, .inr none, .inr none] [] im Q := Iff.rfl
theorem cw_124 {a1 a2 a3 : zV} : wp x (d + 1) m (.invokedynamic 124 :: is) ls (a3 :: a2 :: a1 :: .inr (some o) :: st) im Q ↔ K0[o]? = some (9, 0) ∧ st.length ≤ 8 ∧ CallP d 124 [.inr (some o), a1, a2, a3] im (KT x (d + 1) m is ls st Q) := wp_cv [a1, a2, a3] mi_124
theorem mi_125 : zmi 125 = (2, 1, 6, 2) := rfl
theorem rk_125 : zrk 125 = 1 := rfl
theorem en_125 {a0 a1 : zV} : CallP d 125 [a0, a1] im Q ↔ wp none d 125 (zpg 125 0) [a0, a1] [] im Q := Iff.rfl
theorem cw_125 {a1 : zV} : wp x (d + 1) m (.invokedynamic 125 :: is) ls (a1 :: .inr (some o) :: st) im Q ↔ K0[o]? = some (9, 0) ∧ st.length ≤ 8 ∧ CallP d 125 [.inr (some o), a1] im (KT x (d + 1) m is ls st Q) := wp_cv [a1] mi_125
theorem mi_126 : zmi 126 = (3, 1, 6, 4) := rfl
theorem rk_126 : zrk 126 = 1 := rfl
theorem en_126 {a0 a1 a2 : zV} : CallP d 126 [a0, a1, a2] im Q ↔ wp none d 126 (zpg 126 0) [a0, a1, a2, .inr none] [] im Q := Iff.rfl
theorem cw_126 {a1 a2 : zV} : wp x (d + 1) m (.invokedynamic 126 :: is) ls (a2 :: a1 :: .inr (some o) :: st) im Q ↔ K0[o]? = some (9, 0) ∧ st.length ≤ 8 ∧ CallP d 126 [.inr (some o), a1, a2] im (KT x (d + 1) m is ls st Q) := wp_cv [a1, a2] mi_126
theorem mi_127 : zmi 127 = (3, 0, 6, 5) := rfl
theorem rk_127 : zrk 127 = 1 := rfl
theorem en_127 {a0 a1 a2 : zV} : CallP d 127 [a0, a1, a2] im Q ↔ wp none d 127 (zpg 127 0) [a0, a1, a2, .inr none, .inr none] [] im Q := Iff.rfl
theorem cw_127 {a0 a1 a2 : zV} : wp x (d + 1) m (.invokedynamic 127 :: is) ls (a2 :: a1 :: a0 :: st) im Q ↔ st.length ≤ 8 ∧ CallP d 127 [a0, a1, a2] im (KT x (d + 1) m is ls st Q) := wp_cs [a0, a1, a2] mi_127
theorem mi_128 : zmi 128 = (2, 0, 6, 4) := rfl
theorem rk_128 : zrk 128 = 1 := rfl
theorem en_128 {a0 a1 : zV} : CallP d 128 [a0, a1] im Q ↔ wp none d 128 (zpg 128 0) [a0, a1, .inr none, .inr none] [] im Q := Iff.rfl
theorem cw_128 {a0 a1 : zV} : wp x (d + 1) m (.invokedynamic 128 :: is) ls (a1 :: a0 :: st) im Q ↔ st.length ≤ 8 ∧ CallP d 128 [a0, a1] im (KT x (d + 1) m is ls st Q) := wp_cs [a0, a1] mi_128
theorem mi_129 : zmi 129 = (2, 1, 6, 5) := rfl
theorem rk_129 : zrk 129 = 1 := rfl
theorem en_129 {a0 a1 : zV} : CallP d 129 [a0, a1] im Q ↔ wp none d 129 (zpg 129 0) [a0, a1, .inr none, .inr none, .inr none] [] im Q := Iff.rfl
theorem cw_129 {a1 : zV} : wp x (d + 1) m (.invokedynamic 129 :: is) ls (a1 :: .inr (some o) :: st) im Q ↔ K0[o]? = some (9, 0) ∧ st.length ≤ 8 ∧ CallP d 129 [.inr (some o), a1] im (KT x (d + 1) m is ls st Q) := wp_cv [a1] mi_129
theorem mi_130 : zmi 130 = (4, 1, 6, 5) := rfl
theorem rk_130 : zrk 130 = 1 := rfl
theorem en_130 {a0 a1 a2 a3 : zV} : CallP d 130 [a0, a1, a2, a3] im Q ↔ wp none d 130 (zpg 130 0) [a0, a1, a2, a3, .inr none] [] im Q := Iff.rfl
theorem cw_130 {a1 a2 a3 : zV} : wp x (d + 1) m (.invokedynamic 130 :: is) ls (a3 :: a2 :: a1 :: .inr (some o) :: st) im Q ↔ K0[o]? = some (9, 0) ∧ st.length ≤ 8 ∧ CallP d 130 [.inr (some o), a1, a2, a3] im (KT x (d + 1) m is ls st Q) := wp_cv [a1, a2, a3] mi_130
theorem mi_131 : zmi 131 = (1, 1, 6, 1) := rfl
theorem rk_131 : zrk 131 = 2 := rfl
theorem en_131 {a0 : zV} : CallP d 131 [a0] im Q ↔ wp none d 131 (zpg 131 0) [a0] [] im Q := Iff.rfl
theorem cw_131 : wp x (d + 1) m (.invokedynamic 131 :: is) ls (.inr (some o) :: st) im Q ↔ K0[o]? = some (9, 0) ∧ st.length ≤ 8 ∧ CallP d 131 [.inr (some o)] im (KT x (d + 1) m is ls st Q) := wp_cv [] mi_131
theorem mi_132 : zmi 132 = (1, 1, 6, 1) := rfl
theorem rk_132 : zrk 132 = 2 := rfl
theorem en_132 {a0 : zV} : CallP d 132 [a0] im Q ↔ wp none d 132 (zpg 132 0) [a0] [] im Q := Iff.rfl
theorem cw_132 : wp x (d + 1) m (.invokedynamic 132 :: is) ls (.inr (some o) :: st) im Q ↔ K0[o]? = some (9, 0) ∧ st.length ≤ 8 ∧ CallP d 132 [.inr (some o)] im (KT x (d + 1) m is ls st Q) := wp_cv [] mi_132
theorem mi_133 : zmi 133 = (2, 1, 6, 3) := rfl
theorem rk_133 : zrk 133 = 1 := rfl
theorem en_133 {a0 a1 : zV} : CallP d 133 [a0, a1] im Q ↔ wp none d 133 (zpg 133 0) [a0, a1, .inr none] [] im Q := Iff.rfl
theorem cw_133 {a1 : zV} : wp x (d + 1) m (.invokedynamic 133 :: is) ls (a1 :: .inr (some o) :: st) im Q ↔ K0[o]? = some (9, 0) ∧ st.length ≤ 8 ∧ CallP d 133 [.inr (some o), a1] im (KT x (d + 1) m is ls st Q) := wp_cv [a1] mi_133
theorem mi_134 : zmi 134 = (2, 1, 6, 2) := rfl
theorem rk_134 : zrk 134 = 1 := rfl
theorem en_134 {a0 a1 : zV} : CallP d 134 [a0, a1] im Q ↔ wp none d 134 (zpg 134 0) [a0, a1] [] im Q := Iff.rfl
theorem cw_134 {a1 : zV} : wp x (d + 1) m (.invokedynamic 134 :: is) ls (a1 :: .inr (some o) :: st) im Q ↔ K0[o]? = some (9, 0) ∧ st.length ≤ 8 ∧ CallP d 134 [.inr (some o), a1] im (KT x (d + 1) m is ls st Q) := wp_cv [a1] mi_134
theorem mi_135 : zmi 135 = (2, 1, 6, 3) := rfl
theorem rk_135 : zrk 135 = 1 := rfl
theorem en_135 {a0 a1 : zV} : CallP d 135 [a0, a1] im Q ↔ wp none d 135 (zpg 135 0) [a0, a1, .inr none] [] im Q := Iff.rfl
theorem cw_135 {a1 : zV} : wp x (d + 1) m (.invokedynamic 135 :: is) ls (a1 :: .inr (some o) :: st) im Q ↔ K0[o]? = some (9, 0) ∧ st.length ≤ 8 ∧ CallP d 135 [.inr (some o), a1] im (KT x (d + 1) m is ls st Q) := wp_cv [a1] mi_135
theorem mi_136 : zmi 136 = (1, 1, 6, 1) := rfl
theorem rk_136 : zrk 136 = 3 := rfl
theorem en_136 {a0 : zV} : CallP d 136 [a0] im Q ↔ wp none d 136 (zpg 136 0) [a0] [] im Q := Iff.rfl
theorem cw_136 : wp x (d + 1) m (.invokedynamic 136 :: is) ls (.inr (some o) :: st) im Q ↔ K0[o]? = some (9, 0) ∧ st.length ≤ 8 ∧ CallP d 136 [.inr (some o)] im (KT x (d + 1) m is ls st Q) := wp_cv [] mi_136
theorem mi_137 : zmi 137 = (1, 0, 6, 1) := rfl
theorem rk_137 : zrk 137 = 2 := rfl
theorem en_137 {a0 : zV} : CallP d 137 [a0] im Q ↔ wp none d 137 (zpg 137 0) [a0] [] im Q := Iff.rfl
theorem cw_137 {a0 : zV} : wp x (d + 1) m (.invokedynamic 137 :: is) ls (a0 :: st) im Q ↔ st.length ≤ 8 ∧ CallP d 137 [a0] im (KT x (d + 1) m is ls st Q) := wp_cs [a0] mi_137
theorem mi_138 : zmi 138 = (1, 0, 6, 1) := rfl
theorem rk_138 : zrk 138 = 2 := rfl
theorem en_138 {a0 : zV} : CallP d 138 [a0] im Q ↔ wp none d 138 (zpg 138 0) [a0] [] im Q := Iff.rfl
theorem cw_138 {a0 : zV} : wp x (d + 1) m (.invokedynamic 138 :: is) ls (a0 :: st) im Q ↔ st.length ≤ 8 ∧ CallP d 138 [a0] im (KT x (d + 1) m is ls st Q) := wp_cs [a0] mi_138
theorem mi_139 : zmi 139 = (2, 0, 6, 2) := rfl
theorem rk_139 : zrk 139 = 1 := rfl
theorem en_139 {a0 a1 : zV} : CallP d 139 [a0, a1] im Q ↔ wp none d 139 (zpg 139 0) [a0, a1] [] im Q := Iff.rfl
theorem cw_139 {a0 a1 : zV} : wp x (d + 1) m (.invokedynamic 139 :: is) ls (a1 :: a0 :: st) im Q ↔ st.length ≤ 8 ∧ CallP d 139 [a0, a1] im (KT x (d + 1) m is ls st Q) := wp_cs [a0, a1] mi_139
theorem mi_140 : zmi 140 = (1, 2, 7, 1) := rfl
theorem rk_140 : zrk 140 = 0 := rfl
theorem en_140 {a0 : zV} : CallP d 140 [a0] im Q ↔ wp none d 140 (zpg 140 0) [a0] [] im Q := Iff.rfl
theorem mi_141 : zmi 141 = (3, 0, 7, 3) := rfl
theorem rk_141 : zrk 141 = 2 := rfl
theorem en_141 {a0 a1 a2 : zV} : CallP d 141 [a0, a1, a2] im Q ↔ wp none d 141 (zpg 141 0) [a0, a1, a2] [] im Q := Iff.rfl
theorem cw_141 {a0 a1 a2 : zV} : wp x (d + 1) m (.invokedynamic 141 :: is) ls (a2 :: a1 :: a0 :: st) im Q ↔ st.length ≤ 8 ∧ CallP d 141 [a0, a1, a2] im (KT x (d + 1) m is ls st Q) := wp_cs [a0, a1, a2] mi_141
theorem mi_142 : zmi 142 = (3, 1, 7, 3) := rfl
theorem rk_142 : zrk 142 = 1 := rfl
theorem en_142 {a0 a1 a2 : zV} : CallP d 142 [a0, a1, a2] im Q ↔ wp none d 142 (zpg 142 0) [a0, a1, a2] [] im Q := Iff.rfl
theorem cw_142 {a1 a2 : zV} : wp x (d + 1) m (.invokedynamic 142 :: is) ls (a2 :: a1 :: .inr (some o) :: st) im Q ↔ K0[o]? = some (10, 0) ∧ st.length ≤ 8 ∧ CallP d 142 [.inr (some o), a1, a2] im (KT x (d + 1) m is ls st Q) := wp_cv [a1, a2] mi_142
theorem mi_143 : zmi 143 = (4, 1, 7, 4) := rfl
theorem rk_143 : zrk 143 = 0 := rfl
theorem en_143 {a0 a1 a2 a3 : zV} : CallP d 143 [a0, a1, a2, a3] im Q ↔ wp none d 143 (zpg 143 0) [a0, a1, a2, a3] [] im Q := Iff.rfl
theorem cw_143 {a1 a2 a3 : zV} : wp x (d + 1) m (.invokedynamic 143 :: is) ls (a3 :: a2 :: a1 :: .inr (some o) :: st) im Q ↔ K0[o]? = some (10, 0) ∧ st.length ≤ 8 ∧ CallP d 143 [.inr (some o), a1, a2, a3] im (KT x (d + 1) m is ls st Q) := wp_cv [a1, a2, a3] mi_143
theorem mi_144 : zmi 144 = (2, 1, 7, 2) := rfl
theorem rk_144 : zrk 144 = 2 := rfl
theorem en_144 {a0 a1 : zV} : CallP d 144 [a0, a1] im Q ↔ wp none d 144 (zpg 144 0) [a0, a1] [] im Q := Iff.rfl
theorem cw_144 {a1 : zV} : wp x (d + 1) m (.invokedynamic 144 :: is) ls (a1 :: .inr (some o) :: st) im Q ↔ K0[o]? = some (10, 0) ∧ st.length ≤ 8 ∧ CallP d 144 [.inr (some o), a1] im (KT x (d + 1) m is ls st Q) := wp_cv [a1] mi_144
theorem mi_145 : zmi 145 = (2, 1, 7, 2) := rfl
theorem rk_145 : zrk 145 = 2 := rfl
theorem en_145 {a0 a1 : zV} : CallP d 145 [a0, a1] im Q ↔ wp none d 145 (zpg 145 0) [a0, a1] [] im Q := Iff.rfl
theorem cw_145 {a1 : zV} : wp x (d + 1) m (.invokedynamic 145 :: is) ls (a1 :: .inr (some o) :: st) im Q ↔ K0[o]? = some (10, 0) ∧ st.length ≤ 8 ∧ CallP d 145 [.inr (some o), a1] im (KT x (d + 1) m is ls st Q) := wp_cv [a1] mi_145
theorem mi_146 : zmi 146 = (2, 1, 7, 2) := rfl
theorem rk_146 : zrk 146 = 2 := rfl
theorem en_146 {a0 a1 : zV} : CallP d 146 [a0, a1] im Q ↔ wp none d 146 (zpg 146 0) [a0, a1] [] im Q := Iff.rfl
theorem cw_146 {a1 : zV} : wp x (d + 1) m (.invokedynamic 146 :: is) ls (a1 :: .inr (some o) :: st) im Q ↔ K0[o]? = some (10, 0) ∧ st.length ≤ 8 ∧ CallP d 146 [.inr (some o), a1] im (KT x (d + 1) m is ls st Q) := wp_cv [a1] mi_146
theorem mi_147 : zmi 147 = (2, 1, 7, 2) := rfl
theorem rk_147 : zrk 147 = 2 := rfl
theorem en_147 {a0 a1 : zV} : CallP d 147 [a0, a1] im Q ↔ wp none d 147 (zpg 147 0) [a0, a1] [] im Q := Iff.rfl
theorem cw_147 {a1 : zV} : wp x (d + 1) m (.invokedynamic 147 :: is) ls (a1 :: .inr (some o) :: st) im Q ↔ K0[o]? = some (10, 0) ∧ st.length ≤ 8 ∧ CallP d 147 [.inr (some o), a1] im (KT x (d + 1) m is ls st Q) := wp_cv [a1] mi_147
theorem mi_148 : zmi 148 = (1, 0, 7, 1) := rfl
theorem rk_148 : zrk 148 = 2 := rfl
theorem en_148 {a0 : zV} : CallP d 148 [a0] im Q ↔ wp none d 148 (zpg 148 0) [a0] [] im Q := Iff.rfl
theorem cw_148 {a0 : zV} : wp x (d + 1) m (.invokedynamic 148 :: is) ls (a0 :: st) im Q ↔ st.length ≤ 8 ∧ CallP d 148 [a0] im (KT x (d + 1) m is ls st Q) := wp_cs [a0] mi_148
theorem mi_149 : zmi 149 = (2, 0, 7, 2) := rfl
theorem rk_149 : zrk 149 = 2 := rfl
theorem en_149 {a0 a1 : zV} : CallP d 149 [a0, a1] im Q ↔ wp none d 149 (zpg 149 0) [a0, a1] [] im Q := Iff.rfl
theorem cw_149 {a0 a1 : zV} : wp x (d + 1) m (.invokedynamic 149 :: is) ls (a1 :: a0 :: st) im Q ↔ st.length ≤ 8 ∧ CallP d 149 [a0, a1] im (KT x (d + 1) m is ls st Q) := wp_cs [a0, a1] mi_149
theorem mi_150 : zmi 150 = (1, 0, 7, 3) := rfl
theorem rk_150 : zrk 150 = 1 := rfl
theorem en_150 {a0 : zV} : CallP d 150 [a0] im Q ↔ wp none d 150 (zpg 150 0) [a0, .inr none, .inr none] [] im Q := Iff.rfl
theorem cw_150 {a0 : zV} : wp x (d + 1) m (.invokedynamic 150 :: is) ls (a0 :: st) im Q ↔ st.length ≤ 8 ∧ CallP d 150 [a0] im (KT x (d + 1) m is ls st Q) := wp_cs [a0] mi_150
theorem mi_151 : zmi 151 = (1, 1, 7, 3) := rfl
theorem rk_151 : zrk 151 = 1 := rfl
theorem en_151 {a0 : zV} : CallP d 151 [a0] im Q ↔ wp none d 151 (zpg 151 0) [a0, .inr none, .inr none] [] im Q := Iff.rfl
theorem cw_151 : wp x (d + 1) m (.invokedynamic 151 :: is) ls (.inr (some o) :: st) im Q ↔ K0[o]? = some (10, 0) ∧ st.length ≤ 8 ∧ CallP d 151 [.inr (some o)] im (KT x (d + 1) m is ls st Q) := wp_cv [] mi_151
theorem mi_152 : zmi 152 = (1, 1, 7, 3) := rfl
theorem rk_152 : zrk 152 = 1 := rfl
theorem en_152 {a0 : zV} : CallP d 152 [a0] im Q ↔ wp none d 152 (zpg 152 0) [a0, .inr none, .inr none] [] im Q := Iff.rfl
theorem cw_152 : wp x (d + 1) m (.invokedynamic 152 :: is) ls (.inr (some o) :: st) im Q ↔ K0[o]? = some (10, 0) ∧ st.length ≤ 8 ∧ CallP d 152 [.inr (some o)] im (KT x (d + 1) m is ls st Q) := wp_cv [] mi_152
theorem mi_153 : zmi 153 = (2, 1, 7, 4) := rfl
theorem rk_153 : zrk 153 = 1 := rfl
theorem en_153 {a0 a1 : zV} : CallP d 153 [a0, a1] im Q ↔ wp none d 153 (zpg 153 0) [a0, a1, .inr none, .inr none] [] im Q := Iff.rfl
theorem cw_153 {a1 : zV} : wp x (d + 1) m (.invokedynamic 153 :: is) ls (a1 :: .inr (some o) :: st) im Q ↔ K0[o]? = some (10, 0) ∧ st.length ≤ 8 ∧ CallP d 153 [.inr (some o), a1] im (KT x (d + 1) m is ls st Q) := wp_cv [a1] mi_153
theorem mi_154 : zmi 154 = (2, 1, 7, 4) := rfl
theorem rk_154 : zrk 154 = 1 := rfl
theorem en_154 {a0 a1 : zV} : CallP d 154 [a0, a1] im Q ↔ wp none d 154 (zpg 154 0) [a0, a1, .inr none, .inr none] [] im Q := Iff.rfl
theorem cw_154 {a1 : zV} : wp x (d + 1) m (.invokedynamic 154 :: is) ls (a1 :: .inr (some o) :: st) im Q ↔ K0[o]? = some (10, 0) ∧ st.length ≤ 8 ∧ CallP d 154 [.inr (some o), a1] im (KT x (d + 1) m is ls st Q) := wp_cv [a1] mi_154
theorem mi_155 : zmi 155 = (2, 1, 7, 5) := rfl
theorem rk_155 : zrk 155 = 1 := rfl
theorem en_155 {a0 a1 : zV} : CallP d 155 [a0, a1] im Q ↔ wp none d 155 (zpg 155 0) [a0, a1, .inr none, .inr none, .inr none] [] im Q := Iff.rfl
theorem cw_155 {a1 : zV} : wp x (d + 1) m (.invokedynamic 155 :: is) ls (a1 :: .inr (some o) :: st) im Q ↔ K0[o]? = some (10, 0) ∧ st.length ≤ 8 ∧ CallP d 155 [.inr (some o), a1] im (KT x (d + 1) m is ls st Q) := wp_cv [a1] mi_155
theorem mi_156 : zmi 156 = (1, 1, 7, 3) := rfl
theorem rk_156 : zrk 156 = 0 := rfl
theorem en_156 {a0 : zV} : CallP d 156 [a0] im Q ↔ wp none d 156 (zpg 156 0) [a0, .inr none, .inr none] [] im Q := Iff.rfl
theorem cw_156 : wp x (d + 1) m (.invokedynamic 156 :: is) ls (.inr (some o) :: st) im Q ↔ K0[o]? = some (10, 0) ∧ st.length ≤ 8 ∧ CallP d 156 [.inr (some o)] im (KT x (d + 1) m is ls st Q) := wp_cv [] mi_156
theorem mi_157 : zmi 157 = (3, 1, 7, 4) := rfl
theorem rk_157 : zrk 157 = 1 := rfl
theorem en_157 {a0 a1 a2 : zV} : CallP d 157 [a0, a1, a2] im Q ↔ wp none d 157 (zpg 157 0) [a0, a1, a2, .inr none] [] im Q := Iff.rfl
theorem cw_157 {a1 a2 : zV} : wp x (d + 1) m (.invokedynamic 157 :: is) ls (a2 :: a1 :: .inr (some o) :: st) im Q ↔ K0[o]? = some (10, 0) ∧ st.length ≤ 8 ∧ CallP d 157 [.inr (some o), a1, a2] im (KT x (d + 1) m is ls st Q) := wp_cv [a1, a2] mi_157
theorem mi_158 : zmi 158 = (3, 1, 7, 3) := rfl
theorem rk_158 : zrk 158 = 2 := rfl
theorem en_158 {a0 a1 a2 : zV} : CallP d 158 [a0, a1, a2] im Q ↔ wp none d 158 (zpg 158 0) [a0, a1, a2] [] im Q := Iff.rfl
theorem cw_158 {a1 a2 : zV} : wp x (d + 1) m (.invokedynamic 158 :: is) ls (a2 :: a1 :: .inr (some o) :: st) im Q ↔ K0[o]? = some (10, 0) ∧ st.length ≤ 8 ∧ CallP d 158 [.inr (some o), a1, a2] im (KT x (d + 1) m is ls st Q) := wp_cv [a1, a2] mi_158
theorem mi_159 : zmi 159 = (2, 1, 7, 2) := rfl
theorem rk_159 : zrk 159 = 1 := rfl
theorem en_159 {a0 a1 : zV} : CallP d 159 [a0, a1] im Q ↔ wp none d 159 (zpg 159 0) [a0, a1] [] im Q := Iff.rfl
theorem cw_159 {a1 : zV} : wp x (d + 1) m (.invokedynamic 159 :: is) ls (a1 :: .inr (some o) :: st) im Q ↔ K0[o]? = some (10, 0) ∧ st.length ≤ 8 ∧ CallP d 159 [.inr (some o), a1] im (KT x (d + 1) m is ls st Q) := wp_cv [a1] mi_159
theorem mi_160 : zmi 160 = (1, 1, 7, 2) := rfl
theorem rk_160 : zrk 160 = 1 := rfl
theorem en_160 {a0 : zV} : CallP d 160 [a0] im Q ↔ wp none d 160 (zpg 160 0) [a0, .inr none] [] im Q := Iff.rfl
theorem cw_160 : wp x (d + 1) m (.invokedynamic 160 :: is) ls (.inr (some o) :: st) im Q ↔ K0[o]? = some (10, 0) ∧ st.length ≤ 8 ∧ CallP d 160 [.inr (some o)] im (KT x (d + 1) m is ls st Q) := wp_cv [] mi_160
theorem mi_161 : zmi 161 = (3, 1, 7, 3) := rfl
theorem rk_161 : zrk 161 = 2 := rfl
theorem en_161 {a0 a1 a2 : zV} : CallP d 161 [a0, a1, a2] im Q ↔ wp none d 161 (zpg 161 0) [a0, a1, a2] [] im Q := Iff.rfl
theorem cw_161 {a1 a2 : zV} : wp x (d + 1) m (.invokedynamic 161 :: is) ls (a2 :: a1 :: .inr (some o) :: st) im Q ↔ K0[o]? = some (10, 0) ∧ st.length ≤ 8 ∧ CallP d 161 [.inr (some o), a1, a2] im (KT x (d + 1) m is ls st Q) := wp_cv [a1, a2] mi_161
theorem mi_162 : zmi 162 = (4, 1, 7, 6) := rfl
theorem rk_162 : zrk 162 = 1 := rfl
theorem en_162 {a0 a1 a2 a3 : zV} : CallP d 162 [a0, a1, a2, a3] im Q ↔ wp none d 162 (zpg 162 0) [a0, a1, a2, a3, .inr none, .inr none] [] im Q := Iff.rfl
theorem cw_162 {a1 a2 a3 : zV} : wp x (d + 1) m (.invokedynamic 162 :: is) ls (a3 :: a2 :: a1 :: .inr (some o) :: st) im Q ↔ K0[o]? = some (10, 0) ∧ st.length ≤ 8 ∧ CallP d 162 [.inr (some o), a1, a2, a3] im (KT x (d + 1) m is ls st Q) := wp_cv [a1, a2, a3] mi_162
theorem mi_163 : zmi 163 = (2, 1, 7, 3) := rfl
theorem rk_163 : zrk 163 = 0 := rfl
theorem en_163 {a0 a1 : zV} : CallP d 163 [a0, a1] im Q ↔ wp none d 163 (zpg 163 0) [a0, a1, .inr none] [] im Q := Iff.rfl
theorem cw_163 {a1 : zV} : wp x (d + 1) m (.invokedynamic 163 :: is) ls (a1 :: .inr (some o) :: st) im Q ↔ K0[o]? = some (10, 0) ∧ st.length ≤ 8 ∧ CallP d 163 [.inr (some o), a1] im (KT x (d + 1) m is ls st Q) := wp_cv [a1] mi_163
theorem mi_164 : zmi 164 = (3, 1, 7, 3) := rfl
theorem rk_164 : zrk 164 = 1 := rfl
theorem en_164 {a0 a1 a2 : zV} : CallP d 164 [a0, a1, a2] im Q ↔ wp none d 164 (zpg 164 0) [a0, a1, a2] [] im Q := Iff.rfl
theorem cw_164 {a1 a2 : zV} : wp x (d + 1) m (.invokedynamic 164 :: is) ls (a2 :: a1 :: .inr (some o) :: st) im Q ↔ K0[o]? = some (10, 0) ∧ st.length ≤ 8 ∧ CallP d 164 [.inr (some o), a1, a2] im (KT x (d + 1) m is ls st Q) := wp_cv [a1, a2] mi_164
theorem mi_165 : zmi 165 = (5, 1, 7, 6) := rfl
theorem rk_165 : zrk 165 = 1 := rfl
theorem en_165 {a0 a1 a2 a3 a4 : zV} : CallP d 165 [a0, a1, a2, a3, a4] im Q ↔ wp none d 165 (zpg 165 0) [a0, a1, a2, a3, a4, .inr none] [] im Q := Iff.rfl
theorem cw_165 {a1 a2 a3 a4 : zV} : wp x (d + 1) m (.invokedynamic 165 :: is) ls (a4 :: a3 :: a2 :: a1 :: .inr (some o) :: st) im Q ↔ K0[o]? = some (10, 0) ∧ st.length ≤ 8 ∧ CallP d 165 [.inr (some o), a1, a2, a3, a4] im (KT x (d + 1) m is ls st Q) := wp_cv [a1, a2, a3, a4] mi_165
theorem mi_166 : zmi 166 = (4, 1, 7, 5) := rfl
theorem rk_166 : zrk 166 = 1 := rfl
theorem en_166 {a0 a1 a2 a3 : zV} : CallP d 166 [a0, a1, a2, a3] im Q ↔ wp none d 166 (zpg 166 0) [a0, a1, a2, a3, .inr none] [] im Q := Iff.rfl
theorem cw_166 {a1 a2 a3 : zV} : wp x (d + 1) m (.invokedynamic 166 :: is) ls (a3 :: a2 :: a1 :: .inr (some o) :: st) im Q ↔ K0[o]? = some (10, 0) ∧ st.length ≤ 8 ∧ CallP d 166 [.inr (some o), a1, a2, a3] im (KT x (d + 1) m is ls st Q) := wp_cv [a1, a2, a3] mi_166
theorem mi_167 : zmi 167 = (2, 1, 7, 4) := rfl
theorem rk_167 : zrk 167 = 1 := rfl
theorem en_167 {a0 a1 : zV} : CallP d 167 [a0, a1] im Q ↔ wp none d 167 (zpg 167 0) [a0, a1, .inr none, .inr none] [] im Q := Iff.rfl
theorem cw_167 {a1 : zV} : wp x (d + 1) m (.invokedynamic 167 :: is) ls (a1 :: .inr (some o) :: st) im Q ↔ K0[o]? = some (10, 0) ∧ st.length ≤ 8 ∧ CallP d 167 [.inr (some o), a1] im (KT x (d + 1) m is ls st Q) := wp_cv [a1] mi_167
theorem mi_168 : zmi 168 = (2, 1, 7, 4) := rfl
theorem rk_168 : zrk 168 = 1 := rfl
theorem en_168 {a0 a1 : zV} : CallP d 168 [a0, a1] im Q ↔ wp none d 168 (zpg 168 0) [a0, a1, .inr none, .inr none] [] im Q := Iff.rfl
theorem cw_168 {a1 : zV} : wp x (d + 1) m (.invokedynamic 168 :: is) ls (a1 :: .inr (some o) :: st) im Q ↔ K0[o]? = some (10, 0) ∧ st.length ≤ 8 ∧ CallP d 168 [.inr (some o), a1] im (KT x (d + 1) m is ls st Q) := wp_cv [a1] mi_168
theorem mi_169 : zmi 169 = (2, 1, 7, 5) := rfl
theorem rk_169 : zrk 169 = 1 := rfl
theorem en_169 {a0 a1 : zV} : CallP d 169 [a0, a1] im Q ↔ wp none d 169 (zpg 169 0) [a0, a1, .inr none, .inr none, .inr none] [] im Q := Iff.rfl
theorem cw_169 {a1 : zV} : wp x (d + 1) m (.invokedynamic 169 :: is) ls (a1 :: .inr (some o) :: st) im Q ↔ K0[o]? = some (10, 0) ∧ st.length ≤ 8 ∧ CallP d 169 [.inr (some o), a1] im (KT x (d + 1) m is ls st Q) := wp_cv [a1] mi_169
theorem mi_170 : zmi 170 = (4, 1, 7, 4) := rfl
theorem rk_170 : zrk 170 = 2 := rfl
theorem en_170 {a0 a1 a2 a3 : zV} : CallP d 170 [a0, a1, a2, a3] im Q ↔ wp none d 170 (zpg 170 0) [a0, a1, a2, a3] [] im Q := Iff.rfl
theorem cw_170 {a1 a2 a3 : zV} : wp x (d + 1) m (.invokedynamic 170 :: is) ls (a3 :: a2 :: a1 :: .inr (some o) :: st) im Q ↔ K0[o]? = some (10, 0) ∧ st.length ≤ 8 ∧ CallP d 170 [.inr (some o), a1, a2, a3] im (KT x (d + 1) m is ls st Q) := wp_cv [a1, a2, a3] mi_170
theorem mi_171 : zmi 171 = (3, 1, 7, 3) := rfl
theorem rk_171 : zrk 171 = 2 := rfl
theorem en_171 {a0 a1 a2 : zV} : CallP d 171 [a0, a1, a2] im Q ↔ wp none d 171 (zpg 171 0) [a0, a1, a2] [] im Q := Iff.rfl
theorem cw_171 {a1 a2 : zV} : wp x (d + 1) m (.invokedynamic 171 :: is) ls (a2 :: a1 :: .inr (some o) :: st) im Q ↔ K0[o]? = some (10, 0) ∧ st.length ≤ 8 ∧ CallP d 171 [.inr (some o), a1, a2] im (KT x (d + 1) m is ls st Q) := wp_cv [a1, a2] mi_171
theorem mi_172 : zmi 172 = (2, 0, 7, 2) := rfl
theorem rk_172 : zrk 172 = 1 := rfl
theorem en_172 {a0 a1 : zV} : CallP d 172 [a0, a1] im Q ↔ wp none d 172 (zpg 172 0) [a0, a1] [] im Q := Iff.rfl
theorem cw_172 {a0 a1 : zV} : wp x (d + 1) m (.invokedynamic 172 :: is) ls (a1 :: a0 :: st) im Q ↔ st.length ≤ 8 ∧ CallP d 172 [a0, a1] im (KT x (d + 1) m is ls st Q) := wp_cs [a0, a1] mi_172
theorem mi_173 : zmi 173 = (2, 0, 7, 2) := rfl
theorem rk_173 : zrk 173 = 1 := rfl
theorem en_173 {a0 a1 : zV} : CallP d 173 [a0, a1] im Q ↔ wp none d 173 (zpg 173 0) [a0, a1] [] im Q := Iff.rfl
theorem cw_173 {a0 a1 : zV} : wp x (d + 1) m (.invokedynamic 173 :: is) ls (a1 :: a0 :: st) im Q ↔ st.length ≤ 8 ∧ CallP d 173 [a0, a1] im (KT x (d + 1) m is ls st Q) := wp_cs [a0, a1] mi_173
theorem mi_174 : zmi 174 = (1, 0, 7, 1) := rfl
theorem rk_174 : zrk 174 = 1 := rfl
theorem en_174 {a0 : zV} : CallP d 174 [a0] im Q ↔ wp none d 174 (zpg 174 0) [a0] [] im Q := Iff.rfl
theorem cw_174 {a0 : zV} : wp x (d + 1) m (.invokedynamic 174 :: is) ls (a0 :: st) im Q ↔ st.length ≤ 8 ∧ CallP d 174 [a0] im (KT x (d + 1) m is ls st Q) := wp_cs [a0] mi_174
theorem mi_175 : zmi 175 = (2, 1, 7, 2) := rfl
theorem rk_175 : zrk 175 = 1 := rfl
theorem en_175 {a0 a1 : zV} : CallP d 175 [a0, a1] im Q ↔ wp none d 175 (zpg 175 0) [a0, a1] [] im Q := Iff.rfl
theorem cw_175 {a1 : zV} : wp x (d + 1) m (.invokedynamic 175 :: is) ls (a1 :: .inr (some o) :: st) im Q ↔ K0[o]? = some (10, 0) ∧ st.length ≤ 8 ∧ CallP d 175 [.inr (some o), a1] im (KT x (d + 1) m is ls st Q) := wp_cv [a1] mi_175
theorem mi_176 : zmi 176 = (2, 1, 7, 2) := rfl
theorem rk_176 : zrk 176 = 1 := rfl
theorem en_176 {a0 a1 : zV} : CallP d 176 [a0, a1] im Q ↔ wp none d 176 (zpg 176 0) [a0, a1] [] im Q := Iff.rfl
theorem cw_176 {a1 : zV} : wp x (d + 1) m (.invokedynamic 176 :: is) ls (a1 :: .inr (some o) :: st) im Q ↔ K0[o]? = some (10, 0) ∧ st.length ≤ 8 ∧ CallP d 176 [.inr (some o), a1] im (KT x (d + 1) m is ls st Q) := wp_cv [a1] mi_176
theorem mi_177 : zmi 177 = (4, 1, 7, 6) := rfl
theorem rk_177 : zrk 177 = 2 := rfl
theorem en_177 {a0 a1 a2 a3 : zV} : CallP d 177 [a0, a1, a2, a3] im Q ↔ wp none d 177 (zpg 177 0) [a0, a1, a2, a3, .inr none, .inr none] [] im Q := Iff.rfl
theorem cw_177 {a1 a2 a3 : zV} : wp x (d + 1) m (.invokedynamic 177 :: is) ls (a3 :: a2 :: a1 :: .inr (some o) :: st) im Q ↔ K0[o]? = some (10, 0) ∧ st.length ≤ 8 ∧ CallP d 177 [.inr (some o), a1, a2, a3] im (KT x (d + 1) m is ls st Q) := wp_cv [a1, a2, a3] mi_177
theorem mi_178 : zmi 178 = (2, 0, 7, 2) := rfl
theorem rk_178 : zrk 178 = 1 := rfl
theorem en_178 {a0 a1 : zV} : CallP d 178 [a0, a1] im Q ↔ wp none d 178 (zpg 178 0) [a0, a1] [] im Q := Iff.rfl
theorem cw_178 {a0 a1 : zV} : wp x (d + 1) m (.invokedynamic 178 :: is) ls (a1 :: a0 :: st) im Q ↔ st.length ≤ 8 ∧ CallP d 178 [a0, a1] im (KT x (d + 1) m is ls st Q) := wp_cs [a0, a1] mi_178
theorem mi_179 : zmi 179 = (4, 1, 7, 6) := rfl
theorem rk_179 : zrk 179 = 0 := rfl
theorem en_179 {a0 a1 a2 a3 : zV} : CallP d 179 [a0, a1, a2, a3] im Q ↔ wp none d 179 (zpg 179 0) [a0, a1, a2, a3, .inr none, .inr none] [] im Q := Iff.rfl
theorem cw_179 {a1 a2 a3 : zV} : wp x (d + 1) m (.invokedynamic 179 :: is) ls (a3 :: a2 :: a1 :: .inr (some o) :: st) im Q ↔ K0[o]? = some (10, 0) ∧ st.length ≤ 8 ∧ CallP d 179 [.inr (some o), a1, a2, a3] im (KT x (d + 1) m is ls st Q) := wp_cv [a1, a2, a3] mi_179
theorem mi_180 : zmi 180 = (4, 1, 7, 9) := rfl
theorem rk_180 : zrk 180 = 0 := rfl
theorem en_180 {a0 a1 a2 a3 : zV} : CallP d 180 [a0, a1, a2, a3] im Q ↔ wp none d 180 (zpg 180 0) [a0, a1, a2, a3, .inr none, .inr none, .inr none, .inr none, .inr none] [] im Q := Iff.rfl
theorem cw_180 {a1 a2 a3 : zV} : wp x (d + 1) m (.invokedynamic 180 :: is) ls (a3 :: a2 :: a1 :: .inr (some o) :: st) im Q ↔ K0[o]? = some (10, 0) ∧ st.length ≤ 8 ∧ CallP d 180 [.inr (some o), a1, a2, a3] im (KT x (d + 1) m is ls st Q) := wp_cv [a1, a2, a3] mi_180
theorem mi_181 : zmi 181 = (2, 1, 7, 5) := rfl
theorem rk_181 : zrk 181 = 0 := rfl
theorem en_181 {a0 a1 : zV} : CallP d 181 [a0, a1] im Q ↔ wp none d 181 (zpg 181 0) [a0, a1, .inr none, .inr none, .inr none] [] im Q := Iff.rfl
theorem cw_181 {a1 : zV} : wp x (d + 1) m (.invokedynamic 181 :: is) ls (a1 :: .inr (some o) :: st) im Q ↔ K0[o]? = some (10, 0) ∧ st.length ≤ 8 ∧ CallP d 181 [.inr (some o), a1] im (KT x (d + 1) m is ls st Q) := wp_cv [a1] mi_181
theorem mi_182 : zmi 182 = (1, 1, 7, 3) := rfl
theorem rk_182 : zrk 182 = 0 := rfl
theorem en_182 {a0 : zV} : CallP d 182 [a0] im Q ↔ wp none d 182 (zpg 182 0) [a0, .inr none, .inr none] [] im Q := Iff.rfl
theorem cw_182 : wp x (d + 1) m (.invokedynamic 182 :: is) ls (.inr (some o) :: st) im Q ↔ K0[o]? = some (10, 0) ∧ st.length ≤ 8 ∧ CallP d 182 [.inr (some o)] im (KT x (d + 1) m is ls st Q) := wp_cv [] mi_182
theorem mi_183 : zmi 183 = (1, 1, 7, 5) := rfl
theorem rk_183 : zrk 183 = 1 := rfl
theorem en_183 {a0 : zV} : CallP d 183 [a0] im Q ↔ wp none d 183 (zpg 183 0) [a0, .inr none, .inr none, .inr none, .inr none] [] im Q := Iff.rfl
theorem cw_183 : wp x (d + 1) m (.invokedynamic 183 :: is) ls (.inr (some o) :: st) im Q ↔ K0[o]? = some (10, 0) ∧ st.length ≤ 8 ∧ CallP d 183 [.inr (some o)] im (KT x (d + 1) m is ls st Q) := wp_cv [] mi_183
theorem mi_184 : zmi 184 = (3, 1, 7, 5) := rfl
theorem rk_184 : zrk 184 = 1 := rfl
theorem en_184 {a0 a1 a2 : zV} : CallP d 184 [a0, a1, a2] im Q ↔ wp none d 184 (zpg 184 0) [a0, a1, a2, .inr none, .inr none] [] im Q := Iff.rfl
theorem cw_184 {a1 a2 : zV} : wp x (d + 1) m (.invokedynamic 184 :: is) ls (a2 :: a1 :: .inr (some o) :: st) im Q ↔ K0[o]? = some (10, 0) ∧ st.length ≤ 8 ∧ CallP d 184 [.inr (some o), a1, a2] im (KT x (d + 1) m is ls st Q) := wp_cv [a1, a2] mi_184
theorem mi_185 : zmi 185 = (3, 1, 7, 7) := rfl
theorem rk_185 : zrk 185 = 1 := rfl
theorem en_185 {a0 a1 a2 : zV} : CallP d 185 [a0, a1, a2] im Q ↔ wp none d 185 (zpg 185 0) [a0, a1, a2, .inr none, .inr none, .inr none, .inr none] [] im Q := Iff.rfl
theorem cw_185 {a1 a2 : zV} : wp x (d + 1) m (.invokedynamic 185 :: is) ls (a2 :: a1 :: .inr (some o) :: st) im Q ↔ K0[o]? = some (10, 0) ∧ st.length ≤ 8 ∧ CallP d 185 [.inr (some o), a1, a2] im (KT x (d + 1) m is ls st Q) := wp_cv [a1, a2] mi_185
theorem mi_186 : zmi 186 = (1, 1, 7, 2) := rfl
theorem rk_186 : zrk 186 = 1 := rfl
theorem en_186 {a0 : zV} : CallP d 186 [a0] im Q ↔ wp none d 186 (zpg 186 0) [a0, .inr none] [] im Q := Iff.rfl
theorem cw_186 : wp x (d + 1) m (.invokedynamic 186 :: is) ls (.inr (some o) :: st) im Q ↔ K0[o]? = some (10, 0) ∧ st.length ≤ 8 ∧ CallP d 186 [.inr (some o)] im (KT x (d + 1) m is ls st Q) := wp_cv [] mi_186
theorem mi_187 : zmi 187 = (1, 1, 7, 4) := rfl
theorem rk_187 : zrk 187 = 1 := rfl
theorem en_187 {a0 : zV} : CallP d 187 [a0] im Q ↔ wp none d 187 (zpg 187 0) [a0, .inr none, .inr none, .inr none] [] im Q := Iff.rfl
theorem cw_187 : wp x (d + 1) m (.invokedynamic 187 :: is) ls (.inr (some o) :: st) im Q ↔ K0[o]? = some (10, 0) ∧ st.length ≤ 8 ∧ CallP d 187 [.inr (some o)] im (KT x (d + 1) m is ls st Q) := wp_cv [] mi_187
theorem mi_188 : zmi 188 = (2, 1, 7, 5) := rfl
theorem rk_188 : zrk 188 = 0 := rfl
theorem en_188 {a0 a1 : zV} : CallP d 188 [a0, a1] im Q ↔ wp none d 188 (zpg 188 0) [a0, a1, .inr none, .inr none, .inr none] [] im Q := Iff.rfl
theorem cw_188 {a1 : zV} : wp x (d + 1) m (.invokedynamic 188 :: is) ls (a1 :: .inr (some o) :: st) im Q ↔ K0[o]? = some (10, 0) ∧ st.length ≤ 8 ∧ CallP d 188 [.inr (some o), a1] im (KT x (d + 1) m is ls st Q) := wp_cv [a1] mi_188
theorem mi_189 : zmi 189 = (1, 1, 7, 1) := rfl
theorem rk_189 : zrk 189 = 1 := rfl
theorem en_189 {a0 : zV} : CallP d 189 [a0] im Q ↔ wp none d 189 (zpg 189 0) [a0] [] im Q := Iff.rfl
theorem cw_189 : wp x (d + 1) m (.invokedynamic 189 :: is) ls (.inr (some o) :: st) im Q ↔ K0[o]? = some (10, 0) ∧ st.length ≤ 8 ∧ CallP d 189 [.inr (some o)] im (KT x (d + 1) m is ls st Q) := wp_cv [] mi_189
theorem mi_190 : zmi 190 = (2, 1, 7, 2) := rfl
theorem rk_190 : zrk 190 = 1 := rfl
theorem en_190 {a0 a1 : zV} : CallP d 190 [a0, a1] im Q ↔ wp none d 190 (zpg 190 0) [a0, a1] [] im Q := Iff.rfl
theorem cw_190 {a1 : zV} : wp x (d + 1) m (.invokedynamic 190 :: is) ls (a1 :: .inr (some o) :: st) im Q ↔ K0[o]? = some (10, 0) ∧ st.length ≤ 8 ∧ CallP d 190 [.inr (some o), a1] im (KT x (d + 1) m is ls st Q) := wp_cv [a1] mi_190
theorem mi_191 : zmi 191 = (3, 1, 7, 3) := rfl
theorem rk_191 : zrk 191 = 1 := rfl
theorem en_191 {a0 a1 a2 : zV} : CallP d 191 [a0, a1, a2] im Q ↔ wp none d 191 (zpg 191 0) [a0, a1, a2] [] im Q := Iff.rfl
theorem cw_191 {a1 a2 : zV} : wp x (d + 1) m (.invokedynamic 191 :: is) ls (a2 :: a1 :: .inr (some o) :: st) im Q ↔ K0[o]? = some (10, 0) ∧ st.length ≤ 8 ∧ CallP d 191 [.inr (some o), a1, a2] im (KT x (d + 1) m is ls st Q) := wp_cv [a1, a2] mi_191
theorem mi_192 : zmi 192 = (3, 1, 7, 3) := rfl
theorem rk_192 : zrk 192 = 1 := rfl
theorem en_192 {a0 a1 a2 : zV} : CallP d 192 [a0, a1, a2] im Q ↔ wp none d 192 (zpg 192 0) [a0, a1, a2] [] im Q := Iff.rfl
theorem cw_192 {a1 a2 : zV} : wp x (d + 1) m (.invokedynamic 192 :: is) ls (a2 :: a1 :: .inr (some o) :: st) im Q ↔ K0[o]? = some (10, 0) ∧ st.length ≤ 8 ∧ CallP d 192 [.inr (some o), a1, a2] im (KT x (d + 1) m is ls st Q) := wp_cv [a1, a2] mi_192
theorem mi_193 : zmi 193 = (2, 1, 7, 2) := rfl
theorem rk_193 : zrk 193 = 2 := rfl
theorem en_193 {a0 a1 : zV} : CallP d 193 [a0, a1] im Q ↔ wp none d 193 (zpg 193 0) [a0, a1] [] im Q := Iff.rfl
theorem cw_193 {a1 : zV} : wp x (d + 1) m (.invokedynamic 193 :: is) ls (a1 :: .inr (some o) :: st) im Q ↔ K0[o]? = some (10, 0) ∧ st.length ≤ 8 ∧ CallP d 193 [.inr (some o), a1] im (KT x (d + 1) m is ls st Q) := wp_cv [a1] mi_193
theorem mi_194 : zmi 194 = (4, 1, 7, 5) := rfl
theorem rk_194 : zrk 194 = 0 := rfl
theorem en_194 {a0 a1 a2 a3 : zV} : CallP d 194 [a0, a1, a2, a3] im Q ↔ wp none d 194 (zpg 194 0) [a0, a1, a2, a3, .inr none] [] im Q := Iff.rfl
theorem cw_194 {a1 a2 a3 : zV} : wp x (d + 1) m (.invokedynamic 194 :: is) ls (a3 :: a2 :: a1 :: .inr (some o) :: st) im Q ↔ K0[o]? = some (10, 0) ∧ st.length ≤ 8 ∧ CallP d 194 [.inr (some o), a1, a2, a3] im (KT x (d + 1) m is ls st Q) := wp_cv [a1, a2, a3] mi_194
theorem mi_195 : zmi 195 = (3, 1, 7, 5) := rfl
theorem rk_195 : zrk 195 = 0 := rfl
theorem en_195 {a0 a1 a2 : zV} : CallP d 195 [a0, a1, a2] im Q ↔ wp none d 195 (zpg 195 0) [a0, a1, a2, .inr none, .inr none] [] im Q := Iff.rfl
theorem cw_195 {a1 a2 : zV} : wp x (d + 1) m (.invokedynamic 195 :: is) ls (a2 :: a1 :: .inr (some o) :: st) im Q ↔ K0[o]? = some (10, 0) ∧ st.length ≤ 8 ∧ CallP d 195 [.inr (some o), a1, a2] im (KT x (d + 1) m is ls st Q) := wp_cv [a1, a2] mi_195
theorem mi_196 : zmi 196 = (3, 1, 7, 4) := rfl
theorem rk_196 : zrk 196 = 2 := rfl
theorem en_196 {a0 a1 a2 : zV} : CallP d 196 [a0, a1, a2] im Q ↔ wp none d 196 (zpg 196 0) [a0, a1, a2, .inr none] [] im Q := Iff.rfl
theorem cw_196 {a1 a2 : zV} : wp x (d + 1) m (.invokedynamic 196 :: is) ls (a2 :: a1 :: .inr (some o) :: st) im Q ↔ K0[o]? = some (10, 0) ∧ st.length ≤ 8 ∧ CallP d 196 [.inr (some o), a1, a2] im (KT x (d + 1) m is ls st Q) := wp_cv [a1, a2] mi_196
theorem mi_197 : zmi 197 = (5, 1, 7, 7) := rfl
theorem rk_197 : zrk 197 = 1 := rfl
theorem en_197 {a0 a1 a2 a3 a4 : zV} : CallP d 197 [a0, a1, a2, a3, a4] im Q ↔ wp none d 197 (zpg 197 0) [a0, a1, a2, a3, a4, .inr none, .inr none] [] im Q := Iff.rfl
theorem cw_197 {a1 a2 a3 a4 : zV} : wp x (d + 1) m (.invokedynamic 197 :: is) ls (a4 :: a3 :: a2 :: a1 :: .inr (some o) :: st) im Q ↔ K0[o]? = some (10, 0) ∧ st.length ≤ 8 ∧ CallP d 197 [.inr (some o), a1, a2, a3, a4] im (KT x (d + 1) m is ls st Q) := wp_cv [a1, a2, a3, a4] mi_197
theorem mi_198 : zmi 198 = (3, 1, 7, 5) := rfl
theorem rk_198 : zrk 198 = 1 := rfl
theorem en_198 {a0 a1 a2 : zV} : CallP d 198 [a0, a1, a2] im Q ↔ wp none d 198 (zpg 198 0) [a0, a1, a2, .inr none, .inr none] [] im Q := Iff.rfl
theorem cw_198 {a1 a2 : zV} : wp x (d + 1) m (.invokedynamic 198 :: is) ls (a2 :: a1 :: .inr (some o) :: st) im Q ↔ K0[o]? = some (10, 0) ∧ st.length ≤ 8 ∧ CallP d 198 [.inr (some o), a1, a2] im (KT x (d + 1) m is ls st Q) := wp_cv [a1, a2] mi_198
theorem mi_199 : zmi 199 = (1, 1, 7, 2) := rfl
theorem rk_199 : zrk 199 = 0 := rfl
theorem en_199 {a0 : zV} : CallP d 199 [a0] im Q ↔ wp none d 199 (zpg 199 0) [a0, .inr none] [] im Q := Iff.rfl
theorem cw_199 : wp x (d + 1) m (.invokedynamic 199 :: is) ls (.inr (some o) :: st) im Q ↔ K0[o]? = some (10, 0) ∧ st.length ≤ 8 ∧ CallP d 199 [.inr (some o)] im (KT x (d + 1) m is ls st Q) := wp_cv [] mi_199
theorem mi_200 : zmi 200 = (3, 1, 7, 5) := rfl
theorem rk_200 : zrk 200 = 2 := rfl
theorem en_200 {a0 a1 a2 : zV} : CallP d 200 [a0, a1, a2] im Q ↔ wp none d 200 (zpg 200 0) [a0, a1, a2, .inr none, .inr none] [] im Q := Iff.rfl
theorem cw_200 {a1 a2 : zV} : wp x (d + 1) m (.invokedynamic 200 :: is) ls (a2 :: a1 :: .inr (some o) :: st) im Q ↔ K0[o]? = some (10, 0) ∧ st.length ≤ 8 ∧ CallP d 200 [.inr (some o), a1, a2] im (KT x (d + 1) m is ls st Q) := wp_cv [a1, a2] mi_200
theorem mi_201 : zmi 201 = (2, 1, 7, 2) := rfl
theorem rk_201 : zrk 201 = 1 := rfl
theorem en_201 {a0 a1 : zV} : CallP d 201 [a0, a1] im Q ↔ wp none d 201 (zpg 201 0) [a0, a1] [] im Q := Iff.rfl
theorem cw_201 {a1 : zV} : wp x (d + 1) m (.invokedynamic 201 :: is) ls (a1 :: .inr (some o) :: st) im Q ↔ K0[o]? = some (10, 0) ∧ st.length ≤ 8 ∧ CallP d 201 [.inr (some o), a1] im (KT x (d + 1) m is ls st Q) := wp_cv [a1] mi_201
theorem mi_202 : zmi 202 = (2, 1, 7, 2) := rfl
theorem rk_202 : zrk 202 = 1 := rfl
theorem en_202 {a0 a1 : zV} : CallP d 202 [a0, a1] im Q ↔ wp none d 202 (zpg 202 0) [a0, a1] [] im Q := Iff.rfl
theorem cw_202 {a1 : zV} : wp x (d + 1) m (.invokedynamic 202 :: is) ls (a1 :: .inr (some o) :: st) im Q ↔ K0[o]? = some (10, 0) ∧ st.length ≤ 8 ∧ CallP d 202 [.inr (some o), a1] im (KT x (d + 1) m is ls st Q) := wp_cv [a1] mi_202
theorem mi_203 : zmi 203 = (3, 1, 7, 4) := rfl
theorem rk_203 : zrk 203 = 2 := rfl
theorem en_203 {a0 a1 a2 : zV} : CallP d 203 [a0, a1, a2] im Q ↔ wp none d 203 (zpg 203 0) [a0, a1, a2, .inr none] [] im Q := Iff.rfl
theorem cw_203 {a1 a2 : zV} : wp x (d + 1) m (.invokedynamic 203 :: is) ls (a2 :: a1 :: .inr (some o) :: st) im Q ↔ K0[o]? = some (10, 0) ∧ st.length ≤ 8 ∧ CallP d 203 [.inr (some o), a1, a2] im (KT x (d + 1) m is ls st Q) := wp_cv [a1, a2] mi_203
theorem mi_204 : zmi 204 = (2, 1, 7, 3) := rfl
theorem rk_204 : zrk 204 = 1 := rfl
theorem en_204 {a0 a1 : zV} : CallP d 204 [a0, a1] im Q ↔ wp none d 204 (zpg 204 0) [a0, a1, .inr none] [] im Q := Iff.rfl
theorem cw_204 {a1 : zV} : wp x (d + 1) m (.invokedynamic 204 :: is) ls (a1 :: .inr (some o) :: st) im Q ↔ K0[o]? = some (10, 0) ∧ st.length ≤ 8 ∧ CallP d 204 [.inr (some o), a1] im (KT x (d + 1) m is ls st Q) := wp_cv [a1] mi_204
theorem mi_205 : zmi 205 = (2, 1, 7, 3) := rfl
theorem rk_205 : zrk 205 = 1 := rfl
theorem en_205 {a0 a1 : zV} : CallP d 205 [a0, a1] im Q ↔ wp none d 205 (zpg 205 0) [a0, a1, .inr none] [] im Q := Iff.rfl
theorem cw_205 {a1 : zV} : wp x (d + 1) m (.invokedynamic 205 :: is) ls (a1 :: .inr (some o) :: st) im Q ↔ K0[o]? = some (10, 0) ∧ st.length ≤ 8 ∧ CallP d 205 [.inr (some o), a1] im (KT x (d + 1) m is ls st Q) := wp_cv [a1] mi_205
theorem mi_206 : zmi 206 = (2, 1, 7, 3) := rfl
theorem rk_206 : zrk 206 = 0 := rfl
theorem en_206 {a0 a1 : zV} : CallP d 206 [a0, a1] im Q ↔ wp none d 206 (zpg 206 0) [a0, a1, .inr none] [] im Q := Iff.rfl
theorem cw_206 {a1 : zV} : wp x (d + 1) m (.invokedynamic 206 :: is) ls (a1 :: .inr (some o) :: st) im Q ↔ K0[o]? = some (10, 0) ∧ st.length ≤ 8 ∧ CallP d 206 [.inr (some o), a1] im (KT x (d + 1) m is ls st Q) := wp_cv [a1] mi_206
theorem mi_207 : zmi 207 = (3, 1, 7, 3) := rfl
theorem rk_207 : zrk 207 = 1 := rfl
theorem en_207 {a0 a1 a2 : zV} : CallP d 207 [a0, a1, a2] im Q ↔ wp none d 207 (zpg 207 0) [a0, a1, a2] [] im Q := Iff.rfl
theorem cw_207 {a1 a2 : zV} : wp x (d + 1) m (.invokedynamic 207 :: is) ls (a2 :: a1 :: .inr (some o) :: st) im Q ↔ K0[o]? = some (10, 0) ∧ st.length ≤ 8 ∧ CallP d 207 [.inr (some o), a1, a2] im (KT x (d + 1) m is ls st Q) := wp_cv [a1, a2] mi_207
theorem mi_208 : zmi 208 = (3, 1, 7, 7) := rfl
theorem rk_208 : zrk 208 = 1 := rfl
theorem en_208 {a0 a1 a2 : zV} : CallP d 208 [a0, a1, a2] im Q ↔ wp none d 208 (zpg 208 0) [a0, a1, a2, .inr none, .inr none, .inr none, .inr none] [] im Q := Iff.rfl
theorem cw_208 {a1 a2 : zV} : wp x (d + 1) m (.invokedynamic 208 :: is) ls (a2 :: a1 :: .inr (some o) :: st) im Q ↔ K0[o]? = some (10, 0) ∧ st.length ≤ 8 ∧ CallP d 208 [.inr (some o), a1, a2] im (KT x (d + 1) m is ls st Q) := wp_cv [a1, a2] mi_208
theorem mi_209 : zmi 209 = (2, 1, 7, 5) := rfl
theorem rk_209 : zrk 209 = 1 := rfl
theorem en_209 {a0 a1 : zV} : CallP d 209 [a0, a1] im Q ↔ wp none d 209 (zpg 209 0) [a0, a1, .inr none, .inr none, .inr none] [] im Q := Iff.rfl
theorem cw_209 {a1 : zV} : wp x (d + 1) m (.invokedynamic 209 :: is) ls (a1 :: .inr (some o) :: st) im Q ↔ K0[o]? = some (10, 0) ∧ st.length ≤ 8 ∧ CallP d 209 [.inr (some o), a1] im (KT x (d + 1) m is ls st Q) := wp_cv [a1] mi_209
theorem mi_210 : zmi 210 = (3, 1, 7, 6) := rfl
theorem rk_210 : zrk 210 = 0 := rfl
theorem en_210 {a0 a1 a2 : zV} : CallP d 210 [a0, a1, a2] im Q ↔ wp none d 210 (zpg 210 0) [a0, a1, a2, .inr none, .inr none, .inr none] [] im Q := Iff.rfl
theorem cw_210 {a1 a2 : zV} : wp x (d + 1) m (.invokedynamic 210 :: is) ls (a2 :: a1 :: .inr (some o) :: st) im Q ↔ K0[o]? = some (10, 0) ∧ st.length ≤ 8 ∧ CallP d 210 [.inr (some o), a1, a2] im (KT x (d + 1) m is ls st Q) := wp_cv [a1, a2] mi_210
theorem mi_211 : zmi 211 = (2, 1, 7, 2) := rfl
theorem rk_211 : zrk 211 = 1 := rfl
theorem en_211 {a0 a1 : zV} : CallP d 211 [a0, a1] im Q ↔ wp none d 211 (zpg 211 0) [a0, a1] [] im Q := Iff.rfl
theorem cw_211 {a1 : zV} : wp x (d + 1) m (.invokedynamic 211 :: is) ls (a1 :: .inr (some o) :: st) im Q ↔ K0[o]? = some (10, 0) ∧ st.length ≤ 8 ∧ CallP d 211 [.inr (some o), a1] im (KT x (d + 1) m is ls st Q) := wp_cv [a1] mi_211
theorem mi_212 : zmi 212 = (2, 1, 7, 2) := rfl
theorem rk_212 : zrk 212 = 1 := rfl
theorem en_212 {a0 a1 : zV} : CallP d 212 [a0, a1] im Q ↔ wp none d 212 (zpg 212 0) [a0, a1] [] im Q := Iff.rfl
theorem cw_212 {a1 : zV} : wp x (d + 1) m (.invokedynamic 212 :: is) ls (a1 :: .inr (some o) :: st) im Q ↔ K0[o]? = some (10, 0) ∧ st.length ≤ 8 ∧ CallP d 212 [.inr (some o), a1] im (KT x (d + 1) m is ls st Q) := wp_cv [a1] mi_212
theorem mi_213 : zmi 213 = (2, 1, 7, 3) := rfl
theorem rk_213 : zrk 213 = 2 := rfl
theorem en_213 {a0 a1 : zV} : CallP d 213 [a0, a1] im Q ↔ wp none d 213 (zpg 213 0) [a0, a1, .inr none] [] im Q := Iff.rfl
theorem cw_213 {a1 : zV} : wp x (d + 1) m (.invokedynamic 213 :: is) ls (a1 :: .inr (some o) :: st) im Q ↔ K0[o]? = some (10, 0) ∧ st.length ≤ 8 ∧ CallP d 213 [.inr (some o), a1] im (KT x (d + 1) m is ls st Q) := wp_cv [a1] mi_213
theorem mi_214 : zmi 214 = (1, 1, 7, 3) := rfl
theorem rk_214 : zrk 214 = 2 := rfl
theorem en_214 {a0 : zV} : CallP d 214 [a0] im Q ↔ wp none d 214 (zpg 214 0) [a0, .inr none, .inr none] [] im Q := Iff.rfl
theorem cw_214 : wp x (d + 1) m (.invokedynamic 214 :: is) ls (.inr (some o) :: st) im Q ↔ K0[o]? = some (10, 0) ∧ st.length ≤ 8 ∧ CallP d 214 [.inr (some o)] im (KT x (d + 1) m is ls st Q) := wp_cv [] mi_214
theorem mi_215 : zmi 215 = (1, 1, 7, 3) := rfl
theorem rk_215 : zrk 215 = 1 := rfl
theorem en_215 {a0 : zV} : CallP d 215 [a0] im Q ↔ wp none d 215 (zpg 215 0) [a0, .inr none, .inr none] [] im Q := Iff.rfl
theorem cw_215 : wp x (d + 1) m (.invokedynamic 215 :: is) ls (.inr (some o) :: st) im Q ↔ K0[o]? = some (10, 0) ∧ st.length ≤ 8 ∧ CallP d 215 [.inr (some o)] im (KT x (d + 1) m is ls st Q) := wp_cv [] mi_215
theorem mi_216 : zmi 216 = (4, 1, 7, 9) := rfl
theorem rk_216 : zrk 216 = 2 := rfl
theorem en_216 {a0 a1 a2 a3 : zV} : CallP d 216 [a0, a1, a2, a3] im Q ↔ wp none d 216 (zpg 216 0) [a0, a1, a2, a3, .inr none, .inr none, .inr none, .inr none, .inr none] [] im Q := Iff.rfl
theorem cw_216 {a1 a2 a3 : zV} : wp x (d + 1) m (.invokedynamic 216 :: is) ls (a3 :: a2 :: a1 :: .inr (some o) :: st) im Q ↔ K0[o]? = some (10, 0) ∧ st.length ≤ 8 ∧ CallP d 216 [.inr (some o), a1, a2, a3] im (KT x (d + 1) m is ls st Q) := wp_cv [a1, a2, a3] mi_216
theorem mi_217 : zmi 217 = (3, 1, 7, 3) := rfl
theorem rk_217 : zrk 217 = 2 := rfl
theorem en_217 {a0 a1 a2 : zV} : CallP d 217 [a0, a1, a2] im Q ↔ wp none d 217 (zpg 217 0) [a0, a1, a2] [] im Q := Iff.rfl
theorem cw_217 {a1 a2 : zV} : wp x (d + 1) m (.invokedynamic 217 :: is) ls (a2 :: a1 :: .inr (some o) :: st) im Q ↔ K0[o]? = some (10, 0) ∧ st.length ≤ 8 ∧ CallP d 217 [.inr (some o), a1, a2] im (KT x (d + 1) m is ls st Q) := wp_cv [a1, a2] mi_217
theorem mi_218 : zmi 218 = (4, 1, 7, 6) := rfl
theorem rk_218 : zrk 218 = 2 := rfl
theorem en_218 {a0 a1 a2 a3 : zV} : CallP d 218 [a0, a1, a2, a3] im Q ↔ wp none d 218 (zpg 218 0) [a0, a1, a2, a3, .inr none, .inr none] [] im Q := Iff.rfl
theorem cw_218 {a1 a2 a3 : zV} : wp x (d + 1) m (.invokedynamic 218 :: is) ls (a3 :: a2 :: a1 :: .inr (some o) :: st) im Q ↔ K0[o]? = some (10, 0) ∧ st.length ≤ 8 ∧ CallP d 218 [.inr (some o), a1, a2, a3] im (KT x (d + 1) m is ls st Q) := wp_cv [a1, a2, a3] mi_218
theorem mi_219 : zmi 219 = (1, 1, 7, 3) := rfl
theorem rk_219 : zrk 219 = 1 := rfl
theorem en_219 {a0 : zV} : CallP d 219 [a0] im Q ↔ wp none d 219 (zpg 219 0) [a0, .inr none, .inr none] [] im Q := Iff.rfl
theorem cw_219 : wp x (d + 1) m (.invokedynamic 219 :: is) ls (.inr (some o) :: st) im Q ↔ K0[o]? = some (10, 0) ∧ st.length ≤ 8 ∧ CallP d 219 [.inr (some o)] im (KT x (d + 1) m is ls st Q) := wp_cv [] mi_219
theorem mi_220 : zmi 220 = (2, 1, 7, 6) := rfl
theorem rk_220 : zrk 220 = 1 := rfl
theorem en_220 {a0 a1 : zV} : CallP d 220 [a0, a1] im Q ↔ wp none d 220 (zpg 220 0) [a0, a1, .inr none, .inr none, .inr none, .inr none] [] im Q := Iff.rfl
theorem cw_220 {a1 : zV} : wp x (d + 1) m (.invokedynamic 220 :: is) ls (a1 :: .inr (some o) :: st) im Q ↔ K0[o]? = some (10, 0) ∧ st.length ≤ 8 ∧ CallP d 220 [.inr (some o), a1] im (KT x (d + 1) m is ls st Q) := wp_cv [a1] mi_220
theorem mi_221 : zmi 221 = (2, 1, 7, 2) := rfl
theorem rk_221 : zrk 221 = 1 := rfl
theorem en_221 {a0 a1 : zV} : CallP d 221 [a0, a1] im Q ↔ wp none d 221 (zpg 221 0) [a0, a1] [] im Q := Iff.rfl
theorem cw_221 {a1 : zV} : wp x (d + 1) m (.invokedynamic 221 :: is) ls (a1 :: .inr (some o) :: st) im Q ↔ K0[o]? = some (10, 0) ∧ st.length ≤ 8 ∧ CallP d 221 [.inr (some o), a1] im (KT x (d + 1) m is ls st Q) := wp_cv [a1] mi_221
theorem mi_222 : zmi 222 = (2, 1, 7, 4) := rfl
theorem rk_222 : zrk 222 = 1 := rfl
theorem en_222 {a0 a1 : zV} : CallP d 222 [a0, a1] im Q ↔ wp none d 222 (zpg 222 0) [a0, a1, .inr none, .inr none] [] im Q := Iff.rfl
theorem cw_222 {a1 : zV} : wp x (d + 1) m (.invokedynamic 222 :: is) ls (a1 :: .inr (some o) :: st) im Q ↔ K0[o]? = some (10, 0) ∧ st.length ≤ 8 ∧ CallP d 222 [.inr (some o), a1] im (KT x (d + 1) m is ls st Q) := wp_cv [a1] mi_222
theorem mi_223 : zmi 223 = (3, 1, 7, 3) := rfl
theorem rk_223 : zrk 223 = 1 := rfl
theorem en_223 {a0 a1 a2 : zV} : CallP d 223 [a0, a1, a2] im Q ↔ wp none d 223 (zpg 223 0) [a0, a1, a2] [] im Q := Iff.rfl
theorem cw_223 {a1 a2 : zV} : wp x (d + 1) m (.invokedynamic 223 :: is) ls (a2 :: a1 :: .inr (some o) :: st) im Q ↔ K0[o]? = some (10, 0) ∧ st.length ≤ 8 ∧ CallP d 223 [.inr (some o), a1, a2] im (KT x (d + 1) m is ls st Q) := wp_cv [a1, a2] mi_223
theorem mi_224 : zmi 224 = (4, 1, 7, 4) := rfl
theorem rk_224 : zrk 224 = 1 := rfl
theorem en_224 {a0 a1 a2 a3 : zV} : CallP d 224 [a0, a1, a2, a3] im Q ↔ wp none d 224 (zpg 224 0) [a0, a1, a2, a3] [] im Q := Iff.rfl
theorem cw_224 {a1 a2 a3 : zV} : wp x (d + 1) m (.invokedynamic 224 :: is) ls (a3 :: a2 :: a1 :: .inr (some o) :: st) im Q ↔ K0[o]? = some (10, 0) ∧ st.length ≤ 8 ∧ CallP d 224 [.inr (some o), a1, a2, a3] im (KT x (d + 1) m is ls st Q) := wp_cv [a1, a2, a3] mi_224
theorem mi_225 : zmi 225 = (3, 1, 7, 3) := rfl
theorem rk_225 : zrk 225 = 1 := rfl
theorem en_225 {a0 a1 a2 : zV} : CallP d 225 [a0, a1, a2] im Q ↔ wp none d 225 (zpg 225 0) [a0, a1, a2] [] im Q := Iff.rfl
theorem cw_225 {a1 a2 : zV} : wp x (d + 1) m (.invokedynamic 225 :: is) ls (a2 :: a1 :: .inr (some o) :: st) im Q ↔ K0[o]? = some (10, 0) ∧ st.length ≤ 8 ∧ CallP d 225 [.inr (some o), a1, a2] im (KT x (d + 1) m is ls st Q) := wp_cv [a1, a2] mi_225
theorem mi_226 : zmi 226 = (2, 1, 7, 2) := rfl
theorem rk_226 : zrk 226 = 1 := rfl
theorem en_226 {a0 a1 : zV} : CallP d 226 [a0, a1] im Q ↔ wp none d 226 (zpg 226 0) [a0, a1] [] im Q := Iff.rfl
theorem cw_226 {a1 : zV} : wp x (d + 1) m (.invokedynamic 226 :: is) ls (a1 :: .inr (some o) :: st) im Q ↔ K0[o]? = some (10, 0) ∧ st.length ≤ 8 ∧ CallP d 226 [.inr (some o), a1] im (KT x (d + 1) m is ls st Q) := wp_cv [a1] mi_226
theorem mi_227 : zmi 227 = (3, 1, 7, 4) := rfl
theorem rk_227 : zrk 227 = 1 := rfl
theorem en_227 {a0 a1 a2 : zV} : CallP d 227 [a0, a1, a2] im Q ↔ wp none d 227 (zpg 227 0) [a0, a1, a2, .inr none] [] im Q := Iff.rfl
theorem cw_227 {a1 a2 : zV} : wp x (d + 1) m (.invokedynamic 227 :: is) ls (a2 :: a1 :: .inr (some o) :: st) im Q ↔ K0[o]? = some (10, 0) ∧ st.length ≤ 8 ∧ CallP d 227 [.inr (some o), a1, a2] im (KT x (d + 1) m is ls st Q) := wp_cv [a1, a2] mi_227
theorem mi_228 : zmi 228 = (2, 1, 7, 2) := rfl
theorem rk_228 : zrk 228 = 1 := rfl
theorem en_228 {a0 a1 : zV} : CallP d 228 [a0, a1] im Q ↔ wp none d 228 (zpg 228 0) [a0, a1] [] im Q := Iff.rfl
theorem cw_228 {a1 : zV} : wp x (d + 1) m (.invokedynamic 228 :: is) ls (a1 :: .inr (some o) :: st) im Q ↔ K0[o]? = some (10, 0) ∧ st.length ≤ 8 ∧ CallP d 228 [.inr (some o), a1] im (KT x (d + 1) m is ls st Q) := wp_cv [a1] mi_228
theorem mi_229 : zmi 229 = (3, 0, 7, 3) := rfl
theorem rk_229 : zrk 229 = 2 := rfl
theorem en_229 {a0 a1 a2 : zV} : CallP d 229 [a0, a1, a2] im Q ↔ wp none d 229 (zpg 229 0) [a0, a1, a2] [] im Q := Iff.rfl
theorem cw_229 {a0 a1 a2 : zV} : wp x (d + 1) m (.invokedynamic 229 :: is) ls (a2 :: a1 :: a0 :: st) im Q ↔ st.length ≤ 8 ∧ CallP d 229 [a0, a1, a2] im (KT x (d + 1) m is ls st Q) := wp_cs [a0, a1, a2] mi_229
theorem mi_230 : zmi 230 = (4, 1, 7, 6) := rfl
theorem rk_230 : zrk 230 = 1 := rfl
theorem en_230 {a0 a1 a2 a3 : zV} : CallP d 230 [a0, a1, a2, a3] im Q ↔ wp none d 230 (zpg 230 0) [a0, a1, a2, a3, .inr none, .inr none] [] im Q := Iff.rfl
theorem cw_230 {a1 a2 a3 : zV} : wp x (d + 1) m (.invokedynamic 230 :: is) ls (a3 :: a2 :: a1 :: .inr (some o) :: st) im Q ↔ K0[o]? = some (10, 0) ∧ st.length ≤ 8 ∧ CallP d 230 [.inr (some o), a1, a2, a3] im (KT x (d + 1) m is ls st Q) := wp_cv [a1, a2, a3] mi_230
theorem mi_231 : zmi 231 = (4, 1, 7, 5) := rfl
theorem rk_231 : zrk 231 = 1 := rfl
theorem en_231 {a0 a1 a2 a3 : zV} : CallP d 231 [a0, a1, a2, a3] im Q ↔ wp none d 231 (zpg 231 0) [a0, a1, a2, a3, .inr none] [] im Q := Iff.rfl
theorem cw_231 {a1 a2 a3 : zV} : wp x (d + 1) m (.invokedynamic 231 :: is) ls (a3 :: a2 :: a1 :: .inr (some o) :: st) im Q ↔ K0[o]? = some (10, 0) ∧ st.length ≤ 8 ∧ CallP d 231 [.inr (some o), a1, a2, a3] im (KT x (d + 1) m is ls st Q) := wp_cv [a1, a2, a3] mi_231
theorem mi_232 : zmi 232 = (3, 1, 7, 4) := rfl
theorem rk_232 : zrk 232 = 0 := rfl
theorem en_232 {a0 a1 a2 : zV} : CallP d 232 [a0, a1, a2] im Q ↔ wp none d 232 (zpg 232 0) [a0, a1, a2, .inr none] [] im Q := Iff.rfl
theorem cw_232 {a1 a2 : zV} : wp x (d + 1) m (.invokedynamic 232 :: is) ls (a2 :: a1 :: .inr (some o) :: st) im Q ↔ K0[o]? = some (10, 0) ∧ st.length ≤ 8 ∧ CallP d 232 [.inr (some o), a1, a2] im (KT x (d + 1) m is ls st Q) := wp_cv [a1, a2] mi_232
theorem mi_233 : zmi 233 = (3, 1, 7, 3) := rfl
theorem rk_233 : zrk 233 = 1 := rfl
theorem en_233 {a0 a1 a2 : zV} : CallP d 233 [a0, a1, a2] im Q ↔ wp none d 233 (zpg 233 0) [a0, a1, a2] [] im Q := Iff.rfl
theorem cw_233 {a1 a2 : zV} : wp x (d + 1) m (.invokedynamic 233 :: is) ls (a2 :: a1 :: .inr (some o) :: st) im Q ↔ K0[o]? = some (10, 0) ∧ st.length ≤ 8 ∧ CallP d 233 [.inr (some o), a1, a2] im (KT x (d + 1) m is ls st Q) := wp_cv [a1, a2] mi_233
theorem mi_234 : zmi 234 = (3, 1, 7, 3) := rfl
theorem rk_234 : zrk 234 = 1 := rfl
theorem en_234 {a0 a1 a2 : zV} : CallP d 234 [a0, a1, a2] im Q ↔ wp none d 234 (zpg 234 0) [a0, a1, a2] [] im Q := Iff.rfl
theorem cw_234 {a1 a2 : zV} : wp x (d + 1) m (.invokedynamic 234 :: is) ls (a2 :: a1 :: .inr (some o) :: st) im Q ↔ K0[o]? = some (10, 0) ∧ st.length ≤ 8 ∧ CallP d 234 [.inr (some o), a1, a2] im (KT x (d + 1) m is ls st Q) := wp_cv [a1, a2] mi_234
theorem mi_235 : zmi 235 = (3, 1, 7, 5) := rfl
theorem rk_235 : zrk 235 = 1 := rfl
theorem en_235 {a0 a1 a2 : zV} : CallP d 235 [a0, a1, a2] im Q ↔ wp none d 235 (zpg 235 0) [a0, a1, a2, .inr none, .inr none] [] im Q := Iff.rfl
theorem cw_235 {a1 a2 : zV} : wp x (d + 1) m (.invokedynamic 235 :: is) ls (a2 :: a1 :: .inr (some o) :: st) im Q ↔ K0[o]? = some (10, 0) ∧ st.length ≤ 8 ∧ CallP d 235 [.inr (some o), a1, a2] im (KT x (d + 1) m is ls st Q) := wp_cv [a1, a2] mi_235
theorem mi_236 : zmi 236 = (3, 1, 7, 3) := rfl
theorem rk_236 : zrk 236 = 1 := rfl
theorem en_236 {a0 a1 a2 : zV} : CallP d 236 [a0, a1, a2] im Q ↔ wp none d 236 (zpg 236 0) [a0, a1, a2] [] im Q := Iff.rfl
theorem cw_236 {a1 a2 : zV} : wp x (d + 1) m (.invokedynamic 236 :: is) ls (a2 :: a1 :: .inr (some o) :: st) im Q ↔ K0[o]? = some (10, 0) ∧ st.length ≤ 8 ∧ CallP d 236 [.inr (some o), a1, a2] im (KT x (d + 1) m is ls st Q) := wp_cv [a1, a2] mi_236
theorem mi_237 : zmi 237 = (3, 1, 7, 6) := rfl
theorem rk_237 : zrk 237 = 1 := rfl
theorem en_237 {a0 a1 a2 : zV} : CallP d 237 [a0, a1, a2] im Q ↔ wp none d 237 (zpg 237 0) [a0, a1, a2, .inr none, .inr none, .inr none] [] im Q := Iff.rfl
theorem cw_237 {a1 a2 : zV} : wp x (d + 1) m (.invokedynamic 237 :: is) ls (a2 :: a1 :: .inr (some o) :: st) im Q ↔ K0[o]? = some (10, 0) ∧ st.length ≤ 8 ∧ CallP d 237 [.inr (some o), a1, a2] im (KT x (d + 1) m is ls st Q) := wp_cv [a1, a2] mi_237
theorem mi_238 : zmi 238 = (4, 1, 7, 10) := rfl
theorem rk_238 : zrk 238 = 1 := rfl
theorem en_238 {a0 a1 a2 a3 : zV} : CallP d 238 [a0, a1, a2, a3] im Q ↔ wp none d 238 (zpg 238 0) [a0, a1, a2, a3, .inr none, .inr none, .inr none, .inr none, .inr none, .inr none] [] im Q := Iff.rfl
theorem cw_238 {a1 a2 a3 : zV} : wp x (d + 1) m (.invokedynamic 238 :: is) ls (a3 :: a2 :: a1 :: .inr (some o) :: st) im Q ↔ K0[o]? = some (10, 0) ∧ st.length ≤ 8 ∧ CallP d 238 [.inr (some o), a1, a2, a3] im (KT x (d + 1) m is ls st Q) := wp_cv [a1, a2, a3] mi_238
theorem mi_239 : zmi 239 = (5, 1, 7, 6) := rfl
theorem rk_239 : zrk 239 = 1 := rfl
theorem en_239 {a0 a1 a2 a3 a4 : zV} : CallP d 239 [a0, a1, a2, a3, a4] im Q ↔ wp none d 239 (zpg 239 0) [a0, a1, a2, a3, a4, .inr none] [] im Q := Iff.rfl
theorem cw_239 {a1 a2 a3 a4 : zV} : wp x (d + 1) m (.invokedynamic 239 :: is) ls (a4 :: a3 :: a2 :: a1 :: .inr (some o) :: st) im Q ↔ K0[o]? = some (10, 0) ∧ st.length ≤ 8 ∧ CallP d 239 [.inr (some o), a1, a2, a3, a4] im (KT x (d + 1) m is ls st Q) := wp_cv [a1, a2, a3, a4] mi_239
theorem mi_240 : zmi 240 = (2, 1, 7, 2) := rfl
theorem rk_240 : zrk 240 = 2 := rfl
theorem en_240 {a0 a1 : zV} : CallP d 240 [a0, a1] im Q ↔ wp none d 240 (zpg 240 0) [a0, a1] [] im Q := Iff.rfl
theorem cw_240 {a1 : zV} : wp x (d + 1) m (.invokedynamic 240 :: is) ls (a1 :: .inr (some o) :: st) im Q ↔ K0[o]? = some (10, 0) ∧ st.length ≤ 8 ∧ CallP d 240 [.inr (some o), a1] im (KT x (d + 1) m is ls st Q) := wp_cv [a1] mi_240
theorem mi_241 : zmi 241 = (1, 0, 7, 1) := rfl
theorem rk_241 : zrk 241 = 1 := rfl
theorem en_241 {a0 : zV} : CallP d 241 [a0] im Q ↔ wp none d 241 (zpg 241 0) [a0] [] im Q := Iff.rfl
theorem cw_241 {a0 : zV} : wp x (d + 1) m (.invokedynamic 241 :: is) ls (a0 :: st) im Q ↔ st.length ≤ 8 ∧ CallP d 241 [a0] im (KT x (d + 1) m is ls st Q) := wp_cs [a0] mi_241
theorem mi_242 : zmi 242 = (3, 1, 7, 3) := rfl
theorem rk_242 : zrk 242 = 1 := rfl
theorem en_242 {a0 a1 a2 : zV} : CallP d 242 [a0, a1, a2] im Q ↔ wp none d 242 (zpg 242 0) [a0, a1, a2] [] im Q := Iff.rfl
theorem cw_242 {a1 a2 : zV} : wp x (d + 1) m (.invokedynamic 242 :: is) ls (a2 :: a1 :: .inr (some o) :: st) im Q ↔ K0[o]? = some (10, 0) ∧ st.length ≤ 8 ∧ CallP d 242 [.inr (some o), a1, a2] im (KT x (d + 1) m is ls st Q) := wp_cv [a1, a2] mi_242
theorem mi_243 : zmi 243 = (3, 1, 7, 3) := rfl
theorem rk_243 : zrk 243 = 1 := rfl
theorem en_243 {a0 a1 a2 : zV} : CallP d 243 [a0, a1, a2] im Q ↔ wp none d 243 (zpg 243 0) [a0, a1, a2] [] im Q := Iff.rfl
theorem cw_243 {a1 a2 : zV} : wp x (d + 1) m (.invokedynamic 243 :: is) ls (a2 :: a1 :: .inr (some o) :: st) im Q ↔ K0[o]? = some (10, 0) ∧ st.length ≤ 8 ∧ CallP d 243 [.inr (some o), a1, a2] im (KT x (d + 1) m is ls st Q) := wp_cv [a1, a2] mi_243
theorem mi_244 : zmi 244 = (3, 1, 7, 3) := rfl
theorem rk_244 : zrk 244 = 2 := rfl
theorem en_244 {a0 a1 a2 : zV} : CallP d 244 [a0, a1, a2] im Q ↔ wp none d 244 (zpg 244 0) [a0, a1, a2] [] im Q := Iff.rfl
theorem cw_244 {a1 a2 : zV} : wp x (d + 1) m (.invokedynamic 244 :: is) ls (a2 :: a1 :: .inr (some o) :: st) im Q ↔ K0[o]? = some (10, 0) ∧ st.length ≤ 8 ∧ CallP d 244 [.inr (some o), a1, a2] im (KT x (d + 1) m is ls st Q) := wp_cv [a1, a2] mi_244
theorem mi_245 : zmi 245 = (3, 1, 7, 6) := rfl
theorem rk_245 : zrk 245 = 1 := rfl
theorem en_245 {a0 a1 a2 : zV} : CallP d 245 [a0, a1, a2] im Q ↔ wp none d 245 (zpg 245 0) [a0, a1, a2, .inr none, .inr none, .inr none] [] im Q := Iff.rfl
theorem cw_245 {a1 a2 : zV} : wp x (d + 1) m (.invokedynamic 245 :: is) ls (a2 :: a1 :: .inr (some o) :: st) im Q ↔ K0[o]? = some (10, 0) ∧ st.length ≤ 8 ∧ CallP d 245 [.inr (some o), a1, a2] im (KT x (d + 1) m is ls st Q) := wp_cv [a1, a2] mi_245
theorem mi_246 : zmi 246 = (3, 1, 7, 4) := rfl
theorem rk_246 : zrk 246 = 1 := rfl
theorem en_246 {a0 a1 a2 : zV} : CallP d 246 [a0, a1, a2] im Q ↔ wp none d 246 (zpg 246 0) [a0, a1, a2, .inr none] [] im Q := Iff.rfl
theorem cw_246 {a1 a2 : zV} : wp x (d + 1) m (.invokedynamic 246 :: is) ls (a2 :: a1 :: .inr (some o) :: st) im Q ↔ K0[o]? = some (10, 0) ∧ st.length ≤ 8 ∧ CallP d 246 [.inr (some o), a1, a2] im (KT x (d + 1) m is ls st Q) := wp_cv [a1, a2] mi_246
theorem mi_247 : zmi 247 = (4, 1, 7, 8) := rfl
theorem rk_247 : zrk 247 = 1 := rfl
theorem en_247 {a0 a1 a2 a3 : zV} : CallP d 247 [a0, a1, a2, a3] im Q ↔ wp none d 247 (zpg 247 0) [a0, a1, a2, a3, .inr none, .inr none, .inr none, .inr none] [] im Q := Iff.rfl
theorem cw_247 {a1 a2 a3 : zV} : wp x (d + 1) m (.invokedynamic 247 :: is) ls (a3 :: a2 :: a1 :: .inr (some o) :: st) im Q ↔ K0[o]? = some (10, 0) ∧ st.length ≤ 8 ∧ CallP d 247 [.inr (some o), a1, a2, a3] im (KT x (d + 1) m is ls st Q) := wp_cv [a1, a2, a3] mi_247
theorem mi_248 : zmi 248 = (2, 1, 7, 4) := rfl
theorem rk_248 : zrk 248 = 1 := rfl
theorem en_248 {a0 a1 : zV} : CallP d 248 [a0, a1] im Q ↔ wp none d 248 (zpg 248 0) [a0, a1, .inr none, .inr none] [] im Q := Iff.rfl
theorem cw_248 {a1 : zV} : wp x (d + 1) m (.invokedynamic 248 :: is) ls (a1 :: .inr (some o) :: st) im Q ↔ K0[o]? = some (10, 0) ∧ st.length ≤ 8 ∧ CallP d 248 [.inr (some o), a1] im (KT x (d + 1) m is ls st Q) := wp_cv [a1] mi_248
theorem mi_249 : zmi 249 = (3, 1, 7, 4) := rfl
theorem rk_249 : zrk 249 = 2 := rfl
theorem en_249 {a0 a1 a2 : zV} : CallP d 249 [a0, a1, a2] im Q ↔ wp none d 249 (zpg 249 0) [a0, a1, a2, .inr none] [] im Q := Iff.rfl
theorem cw_249 {a1 a2 : zV} : wp x (d + 1) m (.invokedynamic 249 :: is) ls (a2 :: a1 :: .inr (some o) :: st) im Q ↔ K0[o]? = some (10, 0) ∧ st.length ≤ 8 ∧ CallP d 249 [.inr (some o), a1, a2] im (KT x (d + 1) m is ls st Q) := wp_cv [a1, a2] mi_249
theorem mi_250 : zmi 250 = (2, 1, 7, 4) := rfl
theorem rk_250 : zrk 250 = 1 := rfl
theorem en_250 {a0 a1 : zV} : CallP d 250 [a0, a1] im Q ↔ wp none d 250 (zpg 250 0) [a0, a1, .inr none, .inr none] [] im Q := Iff.rfl
theorem cw_250 {a1 : zV} : wp x (d + 1) m (.invokedynamic 250 :: is) ls (a1 :: .inr (some o) :: st) im Q ↔ K0[o]? = some (10, 0) ∧ st.length ≤ 8 ∧ CallP d 250 [.inr (some o), a1] im (KT x (d + 1) m is ls st Q) := wp_cv [a1] mi_250
theorem mi_251 : zmi 251 = (2, 1, 7, 5) := rfl
theorem rk_251 : zrk 251 = 1 := rfl
theorem en_251 {a0 a1 : zV} : CallP d 251 [a0, a1] im Q ↔ wp none d 251 (zpg 251 0) [a0, a1, .inr none, .inr none, .inr none] [] im Q := Iff.rfl
theorem cw_251 {a1 : zV} : wp x (d + 1) m (.invokedynamic 251 :: is) ls (a1 :: .inr (some o) :: st) im Q ↔ K0[o]? = some (10, 0) ∧ st.length ≤ 8 ∧ CallP d 251 [.inr (some o), a1] im (KT x (d + 1) m is ls st Q) := wp_cv [a1] mi_251
theorem mi_252 : zmi 252 = (1, 1, 7, 2) := rfl
theorem rk_252 : zrk 252 = 0 := rfl
theorem en_252 {a0 : zV} : CallP d 252 [a0] im Q ↔ wp none d 252 (zpg 252 0) [a0, .inr none] [] im Q := Iff.rfl
theorem cw_252 : wp x (d + 1) m (.invokedynamic 252 :: is) ls (.inr (some o) :: st) im Q ↔ K0[o]? = some (10, 0) ∧ st.length ≤ 8 ∧ CallP d 252 [.inr (some o)] im (KT x (d + 1) m is ls st Q) := wp_cv [] mi_252
theorem mi_253 : zmi 253 = (1, 1, 7, 2) := rfl
theorem rk_253 : zrk 253 = 0 := rfl
theorem en_253 {a0 : zV} : CallP d 253 [a0] im Q ↔ wp none d 253 (zpg 253 0) [a0, .inr none] [] im Q := Iff.rfl
theorem cw_253 : wp x (d + 1) m (.invokedynamic 253 :: is) ls (.inr (some o) :: st) im Q ↔ K0[o]? = some (10, 0) ∧ st.length ≤ 8 ∧ CallP d 253 [.inr (some o)] im (KT x (d + 1) m is ls st Q) := wp_cv [] mi_253
theorem mi_254 : zmi 254 = (1, 1, 7, 3) := rfl
theorem rk_254 : zrk 254 = 1 := rfl
theorem en_254 {a0 : zV} : CallP d 254 [a0] im Q ↔ wp none d 254 (zpg 254 0) [a0, .inr none, .inr none] [] im Q := Iff.rfl
theorem cw_254 : wp x (d + 1) m (.invokedynamic 254 :: is) ls (.inr (some o) :: st) im Q ↔ K0[o]? = some (10, 0) ∧ st.length ≤ 8 ∧ CallP d 254 [.inr (some o)] im (KT x (d + 1) m is ls st Q) := wp_cv [] mi_254
theorem mi_255 : zmi 255 = (2, 1, 7, 7) := rfl
theorem rk_255 : zrk 255 = 1 := rfl
theorem en_255 {a0 a1 : zV} : CallP d 255 [a0, a1] im Q ↔ wp none d 255 (zpg 255 0) [a0, a1, .inr none, .inr none, .inr none, .inr none, .inr none] [] im Q := Iff.rfl
theorem cw_255 {a1 : zV} : wp x (d + 1) m (.invokedynamic 255 :: is) ls (a1 :: .inr (some o) :: st) im Q ↔ K0[o]? = some (10, 0) ∧ st.length ≤ 8 ∧ CallP d 255 [.inr (some o), a1] im (KT x (d + 1) m is ls st Q) := wp_cv [a1] mi_255
theorem mi_256 : zmi 256 = (4, 1, 7, 9) := rfl
theorem rk_256 : zrk 256 = 1 := rfl
theorem en_256 {a0 a1 a2 a3 : zV} : CallP d 256 [a0, a1, a2, a3] im Q ↔ wp none d 256 (zpg 256 0) [a0, a1, a2, a3, .inr none, .inr none, .inr none, .inr none, .inr none] [] im Q := Iff.rfl
theorem cw_256 {a1 a2 a3 : zV} : wp x (d + 1) m (.invokedynamic 256 :: is) ls (a3 :: a2 :: a1 :: .inr (some o) :: st) im Q ↔ K0[o]? = some (10, 0) ∧ st.length ≤ 8 ∧ CallP d 256 [.inr (some o), a1, a2, a3] im (KT x (d + 1) m is ls st Q) := wp_cv [a1, a2, a3] mi_256
theorem mi_257 : zmi 257 = (2, 1, 7, 8) := rfl
theorem rk_257 : zrk 257 = 1 := rfl
theorem en_257 {a0 a1 : zV} : CallP d 257 [a0, a1] im Q ↔ wp none d 257 (zpg 257 0) [a0, a1, .inr none, .inr none, .inr none, .inr none, .inr none, .inr none] [] im Q := Iff.rfl
theorem cw_257 {a1 : zV} : wp x (d + 1) m (.invokedynamic 257 :: is) ls (a1 :: .inr (some o) :: st) im Q ↔ K0[o]? = some (10, 0) ∧ st.length ≤ 8 ∧ CallP d 257 [.inr (some o), a1] im (KT x (d + 1) m is ls st Q) := wp_cv [a1] mi_257
theorem mi_258 : zmi 258 = (3, 1, 7, 6) := rfl
theorem rk_258 : zrk 258 = 1 := rfl
theorem en_258 {a0 a1 a2 : zV} : CallP d 258 [a0, a1, a2] im Q ↔ wp none d 258 (zpg 258 0) [a0, a1, a2, .inr none, .inr none, .inr none] [] im Q := Iff.rfl
theorem cw_258 {a1 a2 : zV} : wp x (d + 1) m (.invokedynamic 258 :: is) ls (a2 :: a1 :: .inr (some o) :: st) im Q ↔ K0[o]? = some (10, 0) ∧ st.length ≤ 8 ∧ CallP d 258 [.inr (some o), a1, a2] im (KT x (d + 1) m is ls st Q) := wp_cv [a1, a2] mi_258
theorem mi_259 : zmi 259 = (3, 1, 7, 3) := rfl
theorem rk_259 : zrk 259 = 1 := rfl
theorem en_259 {a0 a1 a2 : zV} : CallP d 259 [a0, a1, a2] im Q ↔ wp none d 259 (zpg 259 0) [a0, a1, a2] [] im Q := Iff.rfl
theorem cw_259 {a1 a2 : zV} : wp x (d + 1) m (.invokedynamic 259 :: is) ls (a2 :: a1 :: .inr (some o) :: st) im Q ↔ K0[o]? = some (10, 0) ∧ st.length ≤ 8 ∧ CallP d 259 [.inr (some o), a1, a2] im (KT x (d + 1) m is ls st Q) := wp_cv [a1, a2] mi_259
theorem mi_260 : zmi 260 = (3, 1, 7, 3) := rfl
theorem rk_260 : zrk 260 = 1 := rfl
theorem en_260 {a0 a1 a2 : zV} : CallP d 260 [a0, a1, a2] im Q ↔ wp none d 260 (zpg 260 0) [a0, a1, a2] [] im Q := Iff.rfl
theorem cw_260 {a1 a2 : zV} : wp x (d + 1) m (.invokedynamic 260 :: is) ls (a2 :: a1 :: .inr (some o) :: st) im Q ↔ K0[o]? = some (10, 0) ∧ st.length ≤ 8 ∧ CallP d 260 [.inr (some o), a1, a2] im (KT x (d + 1) m is ls st Q) := wp_cv [a1, a2] mi_260
theorem mi_261 : zmi 261 = (3, 1, 7, 4) := rfl
theorem rk_261 : zrk 261 = 2 := rfl
theorem en_261 {a0 a1 a2 : zV} : CallP d 261 [a0, a1, a2] im Q ↔ wp none d 261 (zpg 261 0) [a0, a1, a2, .inr none] [] im Q := Iff.rfl
theorem cw_261 {a1 a2 : zV} : wp x (d + 1) m (.invokedynamic 261 :: is) ls (a2 :: a1 :: .inr (some o) :: st) im Q ↔ K0[o]? = some (10, 0) ∧ st.length ≤ 8 ∧ CallP d 261 [.inr (some o), a1, a2] im (KT x (d + 1) m is ls st Q) := wp_cv [a1, a2] mi_261
theorem mi_262 : zmi 262 = (3, 1, 7, 7) := rfl
theorem rk_262 : zrk 262 = 2 := rfl
theorem en_262 {a0 a1 a2 : zV} : CallP d 262 [a0, a1, a2] im Q ↔ wp none d 262 (zpg 262 0) [a0, a1, a2, .inr none, .inr none, .inr none, .inr none] [] im Q := Iff.rfl
theorem cw_262 {a1 a2 : zV} : wp x (d + 1) m (.invokedynamic 262 :: is) ls (a2 :: a1 :: .inr (some o) :: st) im Q ↔ K0[o]? = some (10, 0) ∧ st.length ≤ 8 ∧ CallP d 262 [.inr (some o), a1, a2] im (KT x (d + 1) m is ls st Q) := wp_cv [a1, a2] mi_262
theorem mi_263 : zmi 263 = (2, 1, 7, 4) := rfl
theorem rk_263 : zrk 263 = 1 := rfl
theorem en_263 {a0 a1 : zV} : CallP d 263 [a0, a1] im Q ↔ wp none d 263 (zpg 263 0) [a0, a1, .inr none, .inr none] [] im Q := Iff.rfl
theorem cw_263 {a1 : zV} : wp x (d + 1) m (.invokedynamic 263 :: is) ls (a1 :: .inr (some o) :: st) im Q ↔ K0[o]? = some (10, 0) ∧ st.length ≤ 8 ∧ CallP d 263 [.inr (some o), a1] im (KT x (d + 1) m is ls st Q) := wp_cv [a1] mi_263
theorem mi_264 : zmi 264 = (1, 1, 7, 2) := rfl
theorem rk_264 : zrk 264 = 0 := rfl
theorem en_264 {a0 : zV} : CallP d 264 [a0] im Q ↔ wp none d 264 (zpg 264 0) [a0, .inr none] [] im Q := Iff.rfl
theorem cw_264 : wp x (d + 1) m (.invokedynamic 264 :: is) ls (.inr (some o) :: st) im Q ↔ K0[o]? = some (10, 0) ∧ st.length ≤ 8 ∧ CallP d 264 [.inr (some o)] im (KT x (d + 1) m is ls st Q) := wp_cv [] mi_264
theorem mi_265 : zmi 265 = (1, 1, 7, 3) := rfl
theorem rk_265 : zrk 265 = 0 := rfl
theorem en_265 {a0 : zV} : CallP d 265 [a0] im Q ↔ wp none d 265 (zpg 265 0) [a0, .inr none, .inr none] [] im Q := Iff.rfl
theorem cw_265 : wp x (d + 1) m (.invokedynamic 265 :: is) ls (.inr (some o) :: st) im Q ↔ K0[o]? = some (10, 0) ∧ st.length ≤ 8 ∧ CallP d 265 [.inr (some o)] im (KT x (d + 1) m is ls st Q) := wp_cv [] mi_265
theorem mi_266 : zmi 266 = (1, 1, 7, 1) := rfl
theorem rk_266 : zrk 266 = 2 := rfl
theorem en_266 {a0 : zV} : CallP d 266 [a0] im Q ↔ wp none d 266 (zpg 266 0) [a0] [] im Q := Iff.rfl
theorem cw_266 : wp x (d + 1) m (.invokedynamic 266 :: is) ls (.inr (some o) :: st) im Q ↔ K0[o]? = some (10, 0) ∧ st.length ≤ 8 ∧ CallP d 266 [.inr (some o)] im (KT x (d + 1) m is ls st Q) := wp_cv [] mi_266
theorem mi_267 : zmi 267 = (1, 1, 7, 1) := rfl
theorem rk_267 : zrk 267 = 2 := rfl
theorem en_267 {a0 : zV} : CallP d 267 [a0] im Q ↔ wp none d 267 (zpg 267 0) [a0] [] im Q := Iff.rfl
theorem cw_267 : wp x (d + 1) m (.invokedynamic 267 :: is) ls (.inr (some o) :: st) im Q ↔ K0[o]? = some (10, 0) ∧ st.length ≤ 8 ∧ CallP d 267 [.inr (some o)] im (KT x (d + 1) m is ls st Q) := wp_cv [] mi_267
theorem mi_268 : zmi 268 = (2, 1, 7, 3) := rfl
theorem rk_268 : zrk 268 = 1 := rfl
theorem en_268 {a0 a1 : zV} : CallP d 268 [a0, a1] im Q ↔ wp none d 268 (zpg 268 0) [a0, a1, .inr none] [] im Q := Iff.rfl
theorem cw_268 {a1 : zV} : wp x (d + 1) m (.invokedynamic 268 :: is) ls (a1 :: .inr (some o) :: st) im Q ↔ K0[o]? = some (10, 0) ∧ st.length ≤ 8 ∧ CallP d 268 [.inr (some o), a1] im (KT x (d + 1) m is ls st Q) := wp_cv [a1] mi_268
theorem mi_269 : zmi 269 = (2, 1, 7, 3) := rfl
theorem rk_269 : zrk 269 = 1 := rfl
theorem en_269 {a0 a1 : zV} : CallP d 269 [a0, a1] im Q ↔ wp none d 269 (zpg 269 0) [a0, a1, .inr none] [] im Q := Iff.rfl
theorem cw_269 {a1 : zV} : wp x (d + 1) m (.invokedynamic 269 :: is) ls (a1 :: .inr (some o) :: st) im Q ↔ K0[o]? = some (10, 0) ∧ st.length ≤ 8 ∧ CallP d 269 [.inr (some o), a1] im (KT x (d + 1) m is ls st Q) := wp_cv [a1] mi_269
theorem mi_270 : zmi 270 = (1, 1, 7, 3) := rfl
theorem rk_270 : zrk 270 = 1 := rfl
theorem en_270 {a0 : zV} : CallP d 270 [a0] im Q ↔ wp none d 270 (zpg 270 0) [a0, .inr none, .inr none] [] im Q := Iff.rfl
theorem cw_270 : wp x (d + 1) m (.invokedynamic 270 :: is) ls (.inr (some o) :: st) im Q ↔ K0[o]? = some (10, 0) ∧ st.length ≤ 8 ∧ CallP d 270 [.inr (some o)] im (KT x (d + 1) m is ls st Q) := wp_cv [] mi_270
theorem mi_271 : zmi 271 = (1, 1, 7, 3) := rfl
theorem rk_271 : zrk 271 = 1 := rfl
theorem en_271 {a0 : zV} : CallP d 271 [a0] im Q ↔ wp none d 271 (zpg 271 0) [a0, .inr none, .inr none] [] im Q := Iff.rfl
theorem cw_271 : wp x (d + 1) m (.invokedynamic 271 :: is) ls (.inr (some o) :: st) im Q ↔ K0[o]? = some (10, 0) ∧ st.length ≤ 8 ∧ CallP d 271 [.inr (some o)] im (KT x (d + 1) m is ls st Q) := wp_cv [] mi_271
theorem mi_272 : zmi 272 = (1, 1, 7, 3) := rfl
theorem rk_272 : zrk 272 = 1 := rfl
theorem en_272 {a0 : zV} : CallP d 272 [a0] im Q ↔ wp none d 272 (zpg 272 0) [a0, .inr none, .inr none] [] im Q := Iff.rfl
theorem cw_272 : wp x (d + 1) m (.invokedynamic 272 :: is) ls (.inr (some o) :: st) im Q ↔ K0[o]? = some (10, 0) ∧ st.length ≤ 8 ∧ CallP d 272 [.inr (some o)] im (KT x (d + 1) m is ls st Q) := wp_cv [] mi_272
theorem mi_273 : zmi 273 = (2, 1, 7, 2) := rfl
theorem rk_273 : zrk 273 = 1 := rfl
theorem en_273 {a0 a1 : zV} : CallP d 273 [a0, a1] im Q ↔ wp none d 273 (zpg 273 0) [a0, a1] [] im Q := Iff.rfl
theorem cw_273 {a1 : zV} : wp x (d + 1) m (.invokedynamic 273 :: is) ls (a1 :: .inr (some o) :: st) im Q ↔ K0[o]? = some (10, 0) ∧ st.length ≤ 8 ∧ CallP d 273 [.inr (some o), a1] im (KT x (d + 1) m is ls st Q) := wp_cv [a1] mi_273
end CW
