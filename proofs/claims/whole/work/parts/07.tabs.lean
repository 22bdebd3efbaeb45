/-! facts about the tables -/
theorem z_lookup {α β : Type} [BEq α] [LawfulBEq α] {l : List (α × β)} {k : α} {v : β} (h : l.lookup k = some v) : (k, v) ∈ l := by
  induction l with
  | nil => simp at h
  | cons q l ih =>
    obtain ⟨a, b⟩ := q
    rw [List.lookup_cons] at h
    by_cases hk : (k == a) = true
    · rw [hk] at h
      have e := LawfulBEq.eq_of_beq hk
      subst e
      cases h
      exact List.mem_cons_self
    · simp only [Bool.not_eq_true] at hk
      rw [hk] at h
      exact List.mem_cons_of_mem _ (ih h)
theorem zsg0 {w : Cond} (h : w ∈ zmt0.map zcw) : w ∈ zgw := List.mem_append_left _ h
theorem zsg1 {w : Cond} (h : w ∈ zmt1.map zcw) : w ∈ zgw := List.mem_append_right _ (List.mem_append_left _ h)
theorem zsg2 {w : Cond} (h : w ∈ zmt2.map zcw) : w ∈ zgw := List.mem_append_right _ (List.mem_append_right _ (List.mem_append_left _ h))
theorem zsg3 {w : Cond} (h : w ∈ zmt3.map zcw) : w ∈ zgw := List.mem_append_right _ (List.mem_append_right _ (List.mem_append_right _ (List.mem_append_left _ h)))
theorem zsg4 {w : Cond} (h : w ∈ zmt4.map zcw) : w ∈ zgw := List.mem_append_right _ (List.mem_append_right _ (List.mem_append_right _ (List.mem_append_right _ (List.mem_append_left _ h))))
theorem zsg5 {w : Cond} (h : w ∈ zmt5.map zcw) : w ∈ zgw := List.mem_append_right _ (List.mem_append_right _ (List.mem_append_right _ (List.mem_append_right _ (List.mem_append_right _ (List.mem_append_left _ h)))))
theorem zsg6 {w : Cond} (h : w ∈ zmt6.map zcw) : w ∈ zgw := List.mem_append_right _ (List.mem_append_right _ (List.mem_append_right _ (List.mem_append_right _ (List.mem_append_right _ (List.mem_append_right _ (List.mem_append_left _ h))))))
theorem zsg7 {w : Cond} (h : w ∈ zwIni) : w ∈ zgw := List.mem_append_right _ (List.mem_append_right _ (List.mem_append_right _ (List.mem_append_right _ (List.mem_append_right _ (List.mem_append_right _ (List.mem_append_right _ (List.mem_append_left _ h)))))))
theorem zsg8 {w : Cond} (h : w ∈ zwM0) : w ∈ zgw := List.mem_append_right _ (List.mem_append_right _ (List.mem_append_right _ (List.mem_append_right _ (List.mem_append_right _ (List.mem_append_right _ (List.mem_append_right _ (List.mem_append_right _ (List.mem_append_left _ h))))))))
theorem zsg9 {w : Cond} (h : w ∈ zwM1) : w ∈ zgw := List.mem_append_right _ (List.mem_append_right _ (List.mem_append_right _ (List.mem_append_right _ (List.mem_append_right _ (List.mem_append_right _ (List.mem_append_right _ (List.mem_append_right _ (List.mem_append_right _ (List.mem_append_left _ h)))))))))
theorem zsg10 {w : Cond} (h : w ∈ zwM2) : w ∈ zgw := List.mem_append_right _ (List.mem_append_right _ (List.mem_append_right _ (List.mem_append_right _ (List.mem_append_right _ (List.mem_append_right _ (List.mem_append_right _ (List.mem_append_right _ (List.mem_append_right _ (List.mem_append_right _ (List.mem_append_left _ h))))))))))
theorem zsg11 {w : Cond} (h : w ∈ zwM3) : w ∈ zgw := List.mem_append_right _ (List.mem_append_right _ (List.mem_append_right _ (List.mem_append_right _ (List.mem_append_right _ (List.mem_append_right _ (List.mem_append_right _ (List.mem_append_right _ (List.mem_append_right _ (List.mem_append_right _ (List.mem_append_right _ (List.mem_append_left _ h)))))))))))
theorem zsg12 {w : Cond} (h : w ∈ zwM4) : w ∈ zgw := List.mem_append_right _ (List.mem_append_right _ (List.mem_append_right _ (List.mem_append_right _ (List.mem_append_right _ (List.mem_append_right _ (List.mem_append_right _ (List.mem_append_right _ (List.mem_append_right _ (List.mem_append_right _ (List.mem_append_right _ (List.mem_append_right _ (List.mem_append_left _ h))))))))))))
theorem zsg13 {w : Cond} (h : w ∈ zwM5) : w ∈ zgw := List.mem_append_right _ (List.mem_append_right _ (List.mem_append_right _ (List.mem_append_right _ (List.mem_append_right _ (List.mem_append_right _ (List.mem_append_right _ (List.mem_append_right _ (List.mem_append_right _ (List.mem_append_right _ (List.mem_append_right _ (List.mem_append_right _ (List.mem_append_right _ (List.mem_append_left _ h)))))))))))))
theorem zsg14 {w : Cond} (h : w ∈ zwM6) : w ∈ zgw := List.mem_append_right _ (List.mem_append_right _ (List.mem_append_right _ (List.mem_append_right _ (List.mem_append_right _ (List.mem_append_right _ (List.mem_append_right _ (List.mem_append_right _ (List.mem_append_right _ (List.mem_append_right _ (List.mem_append_right _ (List.mem_append_right _ (List.mem_append_right _ (List.mem_append_right _ (List.mem_append_left _ h))))))))))))))
theorem zsg15 {w : Cond} (h : w ∈ zwLk0) : w ∈ zgw := List.mem_append_right _ (List.mem_append_right _ (List.mem_append_right _ (List.mem_append_right _ (List.mem_append_right _ (List.mem_append_right _ (List.mem_append_right _ (List.mem_append_right _ (List.mem_append_right _ (List.mem_append_right _ (List.mem_append_right _ (List.mem_append_right _ (List.mem_append_right _ (List.mem_append_right _ (List.mem_append_right _ (List.mem_append_left _ h)))))))))))))))
theorem zsg16 {w : Cond} (h : w ∈ zwLk1) : w ∈ zgw := List.mem_append_right _ (List.mem_append_right _ (List.mem_append_right _ (List.mem_append_right _ (List.mem_append_right _ (List.mem_append_right _ (List.mem_append_right _ (List.mem_append_right _ (List.mem_append_right _ (List.mem_append_right _ (List.mem_append_right _ (List.mem_append_right _ (List.mem_append_right _ (List.mem_append_right _ (List.mem_append_right _ (List.mem_append_right _ (List.mem_append_left _ h))))))))))))))))
theorem zsg17 {w : Cond} (h : w ∈ zwLk2) : w ∈ zgw := List.mem_append_right _ (List.mem_append_right _ (List.mem_append_right _ (List.mem_append_right _ (List.mem_append_right _ (List.mem_append_right _ (List.mem_append_right _ (List.mem_append_right _ (List.mem_append_right _ (List.mem_append_right _ (List.mem_append_right _ (List.mem_append_right _ (List.mem_append_right _ (List.mem_append_right _ (List.mem_append_right _ (List.mem_append_right _ (List.mem_append_right _ (List.mem_append_left _ h)))))))))))))))))
theorem zsg18 {w : Cond} (h : w ∈ zwLk3) : w ∈ zgw := List.mem_append_right _ (List.mem_append_right _ (List.mem_append_right _ (List.mem_append_right _ (List.mem_append_right _ (List.mem_append_right _ (List.mem_append_right _ (List.mem_append_right _ (List.mem_append_right _ (List.mem_append_right _ (List.mem_append_right _ (List.mem_append_right _ (List.mem_append_right _ (List.mem_append_right _ (List.mem_append_right _ (List.mem_append_right _ (List.mem_append_right _ (List.mem_append_right _ (List.mem_append_left _ h))))))))))))))))))
theorem zsg19 {w : Cond} (h : w ∈ zwLk4) : w ∈ zgw := List.mem_append_right _ (List.mem_append_right _ (List.mem_append_right _ (List.mem_append_right _ (List.mem_append_right _ (List.mem_append_right _ (List.mem_append_right _ (List.mem_append_right _ (List.mem_append_right _ (List.mem_append_right _ (List.mem_append_right _ (List.mem_append_right _ (List.mem_append_right _ (List.mem_append_right _ (List.mem_append_right _ (List.mem_append_right _ (List.mem_append_right _ (List.mem_append_right _ (List.mem_append_right _ (List.mem_append_left _ h)))))))))))))))))))
theorem zsg20 {w : Cond} (h : w ∈ zwLk5) : w ∈ zgw := List.mem_append_right _ (List.mem_append_right _ (List.mem_append_right _ (List.mem_append_right _ (List.mem_append_right _ (List.mem_append_right _ (List.mem_append_right _ (List.mem_append_right _ (List.mem_append_right _ (List.mem_append_right _ (List.mem_append_right _ (List.mem_append_right _ (List.mem_append_right _ (List.mem_append_right _ (List.mem_append_right _ (List.mem_append_right _ (List.mem_append_right _ (List.mem_append_right _ (List.mem_append_right _ (List.mem_append_right _ (List.mem_append_left _ h))))))))))))))))))))
theorem zsg21 {w : Cond} (h : w ∈ zwFl0) : w ∈ zgw := List.mem_append_right _ (List.mem_append_right _ (List.mem_append_right _ (List.mem_append_right _ (List.mem_append_right _ (List.mem_append_right _ (List.mem_append_right _ (List.mem_append_right _ (List.mem_append_right _ (List.mem_append_right _ (List.mem_append_right _ (List.mem_append_right _ (List.mem_append_right _ (List.mem_append_right _ (List.mem_append_right _ (List.mem_append_right _ (List.mem_append_right _ (List.mem_append_right _ (List.mem_append_right _ (List.mem_append_right _ (List.mem_append_right _ (List.mem_append_left _ h)))))))))))))))))))))
theorem zsg22 {w : Cond} (h : w ∈ zwFl1) : w ∈ zgw := List.mem_append_right _ (List.mem_append_right _ (List.mem_append_right _ (List.mem_append_right _ (List.mem_append_right _ (List.mem_append_right _ (List.mem_append_right _ (List.mem_append_right _ (List.mem_append_right _ (List.mem_append_right _ (List.mem_append_right _ (List.mem_append_right _ (List.mem_append_right _ (List.mem_append_right _ (List.mem_append_right _ (List.mem_append_right _ (List.mem_append_right _ (List.mem_append_right _ (List.mem_append_right _ (List.mem_append_right _ (List.mem_append_right _ (List.mem_append_right _ (List.mem_append_left _ h))))))))))))))))))))))
theorem zsg23 {w : Cond} (h : w ∈ zwCl) : w ∈ zgw := List.mem_append_right _ (List.mem_append_right _ (List.mem_append_right _ (List.mem_append_right _ (List.mem_append_right _ (List.mem_append_right _ (List.mem_append_right _ (List.mem_append_right _ (List.mem_append_right _ (List.mem_append_right _ (List.mem_append_right _ (List.mem_append_right _ (List.mem_append_right _ (List.mem_append_right _ (List.mem_append_right _ (List.mem_append_right _ (List.mem_append_right _ (List.mem_append_right _ (List.mem_append_right _ (List.mem_append_right _ (List.mem_append_right _ (List.mem_append_right _ (List.mem_append_right _ (List.mem_append_left _ h)))))))))))))))))))))))
theorem zsg24 {w : Cond} (h : w ∈ zwIn) : w ∈ zgw := List.mem_append_right _ (List.mem_append_right _ (List.mem_append_right _ (List.mem_append_right _ (List.mem_append_right _ (List.mem_append_right _ (List.mem_append_right _ (List.mem_append_right _ (List.mem_append_right _ (List.mem_append_right _ (List.mem_append_right _ (List.mem_append_right _ (List.mem_append_right _ (List.mem_append_right _ (List.mem_append_right _ (List.mem_append_right _ (List.mem_append_right _ (List.mem_append_right _ (List.mem_append_right _ (List.mem_append_right _ (List.mem_append_right _ (List.mem_append_right _ (List.mem_append_right _ (List.mem_append_right _ (List.mem_append_left _ h))))))))))))))))))))))))
theorem zsg25 {w : Cond} (h : w ∈ zwU0) : w ∈ zgw := List.mem_append_right _ (List.mem_append_right _ (List.mem_append_right _ (List.mem_append_right _ (List.mem_append_right _ (List.mem_append_right _ (List.mem_append_right _ (List.mem_append_right _ (List.mem_append_right _ (List.mem_append_right _ (List.mem_append_right _ (List.mem_append_right _ (List.mem_append_right _ (List.mem_append_right _ (List.mem_append_right _ (List.mem_append_right _ (List.mem_append_right _ (List.mem_append_right _ (List.mem_append_right _ (List.mem_append_right _ (List.mem_append_right _ (List.mem_append_right _ (List.mem_append_right _ (List.mem_append_right _ (List.mem_append_right _ (List.mem_append_left _ h)))))))))))))))))))))))))
theorem zsg26 {w : Cond} (h : w ∈ zwU1) : w ∈ zgw := List.mem_append_right _ (List.mem_append_right _ (List.mem_append_right _ (List.mem_append_right _ (List.mem_append_right _ (List.mem_append_right _ (List.mem_append_right _ (List.mem_append_right _ (List.mem_append_right _ (List.mem_append_right _ (List.mem_append_right _ (List.mem_append_right _ (List.mem_append_right _ (List.mem_append_right _ (List.mem_append_right _ (List.mem_append_right _ (List.mem_append_right _ (List.mem_append_right _ (List.mem_append_right _ (List.mem_append_right _ (List.mem_append_right _ (List.mem_append_right _ (List.mem_append_right _ (List.mem_append_right _ (List.mem_append_right _ (List.mem_append_right _ (List.mem_append_left _ h))))))))))))))))))))))))))
theorem zsg27 {w : Cond} (h : w ∈ zwU2) : w ∈ zgw := List.mem_append_right _ (List.mem_append_right _ (List.mem_append_right _ (List.mem_append_right _ (List.mem_append_right _ (List.mem_append_right _ (List.mem_append_right _ (List.mem_append_right _ (List.mem_append_right _ (List.mem_append_right _ (List.mem_append_right _ (List.mem_append_right _ (List.mem_append_right _ (List.mem_append_right _ (List.mem_append_right _ (List.mem_append_right _ (List.mem_append_right _ (List.mem_append_right _ (List.mem_append_right _ (List.mem_append_right _ (List.mem_append_right _ (List.mem_append_right _ (List.mem_append_right _ (List.mem_append_right _ (List.mem_append_right _ (List.mem_append_right _ (List.mem_append_right _ (List.mem_append_left _ h)))))))))))))))))))))))))))
theorem zsg28 {w : Cond} (h : w ∈ zwU3) : w ∈ zgw := List.mem_append_right _ (List.mem_append_right _ (List.mem_append_right _ (List.mem_append_right _ (List.mem_append_right _ (List.mem_append_right _ (List.mem_append_right _ (List.mem_append_right _ (List.mem_append_right _ (List.mem_append_right _ (List.mem_append_right _ (List.mem_append_right _ (List.mem_append_right _ (List.mem_append_right _ (List.mem_append_right _ (List.mem_append_right _ (List.mem_append_right _ (List.mem_append_right _ (List.mem_append_right _ (List.mem_append_right _ (List.mem_append_right _ (List.mem_append_right _ (List.mem_append_right _ (List.mem_append_right _ (List.mem_append_right _ (List.mem_append_right _ (List.mem_append_right _ (List.mem_append_right _ (List.mem_append_left _ h))))))))))))))))))))))))))))
theorem zsg29 {w : Cond} (h : w ∈ zwU4) : w ∈ zgw := List.mem_append_right _ (List.mem_append_right _ (List.mem_append_right _ (List.mem_append_right _ (List.mem_append_right _ (List.mem_append_right _ (List.mem_append_right _ (List.mem_append_right _ (List.mem_append_right _ (List.mem_append_right _ (List.mem_append_right _ (List.mem_append_right _ (List.mem_append_right _ (List.mem_append_right _ (List.mem_append_right _ (List.mem_append_right _ (List.mem_append_right _ (List.mem_append_right _ (List.mem_append_right _ (List.mem_append_right _ (List.mem_append_right _ (List.mem_append_right _ (List.mem_append_right _ (List.mem_append_right _ (List.mem_append_right _ (List.mem_append_right _ (List.mem_append_right _ (List.mem_append_right _ (List.mem_append_right _ (List.mem_append_left _ h)))))))))))))))))))))))))))))
theorem zsg30 {w : Cond} (h : w ∈ zwU5) : w ∈ zgw := List.mem_append_right _ (List.mem_append_right _ (List.mem_append_right _ (List.mem_append_right _ (List.mem_append_right _ (List.mem_append_right _ (List.mem_append_right _ (List.mem_append_right _ (List.mem_append_right _ (List.mem_append_right _ (List.mem_append_right _ (List.mem_append_right _ (List.mem_append_right _ (List.mem_append_right _ (List.mem_append_right _ (List.mem_append_right _ (List.mem_append_right _ (List.mem_append_right _ (List.mem_append_right _ (List.mem_append_right _ (List.mem_append_right _ (List.mem_append_right _ (List.mem_append_right _ (List.mem_append_right _ (List.mem_append_right _ (List.mem_append_right _ (List.mem_append_right _ (List.mem_append_right _ (List.mem_append_right _ (List.mem_append_right _ (List.mem_append_left _ h))))))))))))))))))))))))))))))
theorem zsg31 {w : Cond} (h : w ∈ zwU6) : w ∈ zgw := List.mem_append_right _ (List.mem_append_right _ (List.mem_append_right _ (List.mem_append_right _ (List.mem_append_right _ (List.mem_append_right _ (List.mem_append_right _ (List.mem_append_right _ (List.mem_append_right _ (List.mem_append_right _ (List.mem_append_right _ (List.mem_append_right _ (List.mem_append_right _ (List.mem_append_right _ (List.mem_append_right _ (List.mem_append_right _ (List.mem_append_right _ (List.mem_append_right _ (List.mem_append_right _ (List.mem_append_right _ (List.mem_append_right _ (List.mem_append_right _ (List.mem_append_right _ (List.mem_append_right _ (List.mem_append_right _ (List.mem_append_right _ (List.mem_append_right _ (List.mem_append_right _ (List.mem_append_right _ (List.mem_append_right _ (List.mem_append_right _ (List.mem_append_left _ h)))))))))))))))))))))))))))))))
theorem zsg32 {w : Cond} (h : w ∈ zwU7) : w ∈ zgw := List.mem_append_right _ (List.mem_append_right _ (List.mem_append_right _ (List.mem_append_right _ (List.mem_append_right _ (List.mem_append_right _ (List.mem_append_right _ (List.mem_append_right _ (List.mem_append_right _ (List.mem_append_right _ (List.mem_append_right _ (List.mem_append_right _ (List.mem_append_right _ (List.mem_append_right _ (List.mem_append_right _ (List.mem_append_right _ (List.mem_append_right _ (List.mem_append_right _ (List.mem_append_right _ (List.mem_append_right _ (List.mem_append_right _ (List.mem_append_right _ (List.mem_append_right _ (List.mem_append_right _ (List.mem_append_right _ (List.mem_append_right _ (List.mem_append_right _ (List.mem_append_right _ (List.mem_append_right _ (List.mem_append_right _ (List.mem_append_right _ (List.mem_append_right _ (List.mem_append_left _ h))))))))))))))))))))))))))))))))
theorem zsg33 {w : Cond} (h : w ∈ zwNat) : w ∈ zgw := List.mem_append_right _ (List.mem_append_right _ (List.mem_append_right _ (List.mem_append_right _ (List.mem_append_right _ (List.mem_append_right _ (List.mem_append_right _ (List.mem_append_right _ (List.mem_append_right _ (List.mem_append_right _ (List.mem_append_right _ (List.mem_append_right _ (List.mem_append_right _ (List.mem_append_right _ (List.mem_append_right _ (List.mem_append_right _ (List.mem_append_right _ (List.mem_append_right _ (List.mem_append_right _ (List.mem_append_right _ (List.mem_append_right _ (List.mem_append_right _ (List.mem_append_right _ (List.mem_append_right _ (List.mem_append_right _ (List.mem_append_right _ (List.mem_append_right _ (List.mem_append_right _ (List.mem_append_right _ (List.mem_append_right _ (List.mem_append_right _ (List.mem_append_right _ (List.mem_append_right _ (List.mem_append_left _ h)))))))))))))))))))))))))))))))))
theorem zsg34 {w : Cond} (h : w ∈ zwNat2) : w ∈ zgw := List.mem_append_right _ (List.mem_append_right _ (List.mem_append_right _ (List.mem_append_right _ (List.mem_append_right _ (List.mem_append_right _ (List.mem_append_right _ (List.mem_append_right _ (List.mem_append_right _ (List.mem_append_right _ (List.mem_append_right _ (List.mem_append_right _ (List.mem_append_right _ (List.mem_append_right _ (List.mem_append_right _ (List.mem_append_right _ (List.mem_append_right _ (List.mem_append_right _ (List.mem_append_right _ (List.mem_append_right _ (List.mem_append_right _ (List.mem_append_right _ (List.mem_append_right _ (List.mem_append_right _ (List.mem_append_right _ (List.mem_append_right _ (List.mem_append_right _ (List.mem_append_right _ (List.mem_append_right _ (List.mem_append_right _ (List.mem_append_right _ (List.mem_append_right _ (List.mem_append_right _ (List.mem_append_right _ (List.mem_append_left _ h))))))))))))))))))))))))))))))))))
theorem zsg35 {w : Cond} (h : w ∈ zwNat3) : w ∈ zgw := List.mem_append_right _ (List.mem_append_right _ (List.mem_append_right _ (List.mem_append_right _ (List.mem_append_right _ (List.mem_append_right _ (List.mem_append_right _ (List.mem_append_right _ (List.mem_append_right _ (List.mem_append_right _ (List.mem_append_right _ (List.mem_append_right _ (List.mem_append_right _ (List.mem_append_right _ (List.mem_append_right _ (List.mem_append_right _ (List.mem_append_right _ (List.mem_append_right _ (List.mem_append_right _ (List.mem_append_right _ (List.mem_append_right _ (List.mem_append_right _ (List.mem_append_right _ (List.mem_append_right _ (List.mem_append_right _ (List.mem_append_right _ (List.mem_append_right _ (List.mem_append_right _ (List.mem_append_right _ (List.mem_append_right _ (List.mem_append_right _ (List.mem_append_right _ (List.mem_append_right _ (List.mem_append_right _ (List.mem_append_right _ (List.mem_append_left _ h)))))))))))))))))))))))))))))))))))
theorem zsg36 {w : Cond} (h : w ∈ zwOi) : w ∈ zgw := List.mem_append_right _ (List.mem_append_right _ (List.mem_append_right _ (List.mem_append_right _ (List.mem_append_right _ (List.mem_append_right _ (List.mem_append_right _ (List.mem_append_right _ (List.mem_append_right _ (List.mem_append_right _ (List.mem_append_right _ (List.mem_append_right _ (List.mem_append_right _ (List.mem_append_right _ (List.mem_append_right _ (List.mem_append_right _ (List.mem_append_right _ (List.mem_append_right _ (List.mem_append_right _ (List.mem_append_right _ (List.mem_append_right _ (List.mem_append_right _ (List.mem_append_right _ (List.mem_append_right _ (List.mem_append_right _ (List.mem_append_right _ (List.mem_append_right _ (List.mem_append_right _ (List.mem_append_right _ (List.mem_append_right _ (List.mem_append_right _ (List.mem_append_right _ (List.mem_append_right _ (List.mem_append_right _ (List.mem_append_right _ (List.mem_append_right _ (h))))))))))))))))))))))))))))))))))))
theorem zg_code {e : zMT} (hx : e ∈ zmt) : zcw e ∈ zgw := by
  unfold zmt at hx
  rcases List.mem_append.mp hx with hx | hx
  · exact zsg0 (List.mem_map_of_mem hx)
  rcases List.mem_append.mp hx with hx | hx
  · exact zsg1 (List.mem_map_of_mem hx)
  rcases List.mem_append.mp hx with hx | hx
  · exact zsg2 (List.mem_map_of_mem hx)
  rcases List.mem_append.mp hx with hx | hx
  · exact zsg3 (List.mem_map_of_mem hx)
  rcases List.mem_append.mp hx with hx | hx
  · exact zsg4 (List.mem_map_of_mem hx)
  rcases List.mem_append.mp hx with hx | hx
  · exact zsg5 (List.mem_map_of_mem hx)
  exact zsg6 (List.mem_map_of_mem hx)
theorem zg_kind {e : zMT} (hx : e ∈ zmt) : ∀ w ∈ zwK e, w ∈ zgw := by
  intro w hw
  unfold zmt at hx
  rcases List.mem_append.mp hx with hx | hx
  · exact zsg8 (List.mem_flatMap.mpr ⟨e, hx, hw⟩)
  rcases List.mem_append.mp hx with hx | hx
  · exact zsg9 (List.mem_flatMap.mpr ⟨e, hx, hw⟩)
  rcases List.mem_append.mp hx with hx | hx
  · exact zsg10 (List.mem_flatMap.mpr ⟨e, hx, hw⟩)
  rcases List.mem_append.mp hx with hx | hx
  · exact zsg11 (List.mem_flatMap.mpr ⟨e, hx, hw⟩)
  rcases List.mem_append.mp hx with hx | hx
  · exact zsg12 (List.mem_flatMap.mpr ⟨e, hx, hw⟩)
  rcases List.mem_append.mp hx with hx | hx
  · exact zsg13 (List.mem_flatMap.mpr ⟨e, hx, hw⟩)
  exact zsg14 (List.mem_flatMap.mpr ⟨e, hx, hw⟩)
theorem zg_lk {x : (Nat × Nat) × Nat} (hx : x ∈ zlk) : zwL x ∈ zgw := by
  unfold zlk at hx
  rcases List.mem_append.mp hx with hx | hx
  · exact zsg15 (List.mem_map_of_mem hx)
  rcases List.mem_append.mp hx with hx | hx
  · exact zsg16 (List.mem_map_of_mem hx)
  rcases List.mem_append.mp hx with hx | hx
  · exact zsg17 (List.mem_map_of_mem hx)
  rcases List.mem_append.mp hx with hx | hx
  · exact zsg18 (List.mem_map_of_mem hx)
  rcases List.mem_append.mp hx with hx | hx
  · exact zsg19 (List.mem_map_of_mem hx)
  exact zsg20 (List.mem_map_of_mem hx)
theorem zg_fl {x : (Nat × Nat) × Nat × Nat} (hx : x ∈ zfl) : zwF x ∈ zgw := by
  unfold zfl at hx
  rcases List.mem_append.mp hx with hx | hx
  · exact zsg21 (List.mem_map_of_mem hx)
  exact zsg22 (List.mem_map_of_mem hx)
theorem zg_cl {x : (Nat × Nat) × Nat} (hx : x ∈ zcl) : zwC x ∈ zgw := zsg23 (List.mem_map_of_mem hx)
theorem zg_na {x : (Nat × Nat) × Nat} (hx : x ∈ zna) : zwNa x ∈ zgw := zsg33 (List.mem_map_of_mem hx)
theorem zg_oi {x : Nat × Nat} (hx : x ∈ zoi) : Cond.methodLink (zcn x.1) x.2 Lib.objectInit ∈ zgw := zsg36 (List.mem_map_of_mem (f := fun x => Cond.methodLink (zcn x.1) x.2 Lib.objectInit) hx)
theorem zg_ini {ci : Nat} (h : ci < 8) : Cond.initialized (zcn ci) ∈ zgw := zsg7 (List.mem_map_of_mem (f := fun ci => Cond.initialized (zcn ci)) (List.mem_range.mpr h))
theorem zg_ins {ci : Nat} (h : ci < 8) : Cond.instantiable (zcn ci) (zcN ci) ∈ zgw := zsg24 (List.mem_map_of_mem (f := fun ci => Cond.instantiable (zcn ci) (zcN ci)) (List.mem_range.mpr h))
theorem zg_us {ci : Nat} (h : ci < 8) : ∀ w ∈ u_ws (zcn ci) (zct ci) (zcN ci), w ∈ zgw := by
  rcases (show ci = 0 ∨ ci = 1 ∨ ci = 2 ∨ ci = 3 ∨ ci = 4 ∨ ci = 5 ∨ ci = 6 ∨ ci = 7 by omega) with rfl | rfl | rfl | rfl | rfl | rfl | rfl | rfl
  · exact fun w hw => zsg25 hw
  · exact fun w hw => zsg26 hw
  · exact fun w hw => zsg27 hw
  · exact fun w hw => zsg28 hw
  · exact fun w hw => zsg29 hw
  · exact fun w hw => zsg30 hw
  · exact fun w hw => zsg31 hw
  · exact fun w hw => zsg32 hw
theorem zg_ty {ci : Nat} (h : ci < 8) : ∀ k, k < zcN ci → parseFieldDescriptor (zct ci k).2.2.1 = some (zcy ci k) := by
  rcases (show ci = 0 ∨ ci = 1 ∨ ci = 2 ∨ ci = 3 ∨ ci = 4 ∨ ci = 5 ∨ ci = 6 ∨ ci = 7 by omega) with rfl | rfl | rfl | rfl | rfl | rfl | rfl | rfl
  · exact tyX0_ok
  · exact tyX1_ok
  · exact tyX2_ok
  · exact tyX3_ok
  · exact tyX4_ok
  · exact tyX5_ok
  · exact tyX6_ok
  · exact tyX7_ok
theorem zg_nm {ci : Nat} (h : ci < 8) : ∀ a, a < zcN ci → ∀ b, b < zcN ci → a ≠ b → (zct ci a).2.1 ≠ (zct ci b).2.1 := by
  rcases (show ci = 0 ∨ ci = 1 ∨ ci = 2 ∨ ci = 3 ∨ ci = 4 ∨ ci = 5 ∨ ci = 6 ∨ ci = 7 by omega) with rfl | rfl | rfl | rfl | rfl | rfl | rfl | rfl
  · exact nmX0
  · exact nmX1
  · exact nmX2
  · exact nmX3
  · exact nmX4
  · exact nmX5
  · exact nmX6
  · exact nmX7
theorem zg_cls {ci : Nat} (h : ci < 8) : vwCl[ci]? = some (zcn ci, zct ci, zcN ci) := by
  rcases (show ci = 0 ∨ ci = 1 ∨ ci = 2 ∨ ci = 3 ∨ ci = 4 ∨ ci = 5 ∨ ci = 6 ∨ ci = 7 by omega) with rfl | rfl | rfl | rfl | rfl | rfl | rfl | rfl
  · exact rfl
  · exact rfl
  · exact rfl
  · exact rfl
  · exact rfl
  · exact rfl
  · exact rfl
  · exact rfl
theorem zg_dc {ci : Nat} (h : ci < 8) : ∀ k, k < zcN ci → (zct ci k).1 = zcn ci := by
  rcases (show ci = 0 ∨ ci = 1 ∨ ci = 2 ∨ ci = 3 ∨ ci = 4 ∨ ci = 5 ∨ ci = 6 ∨ ci = 7 by omega) with rfl | rfl | rfl | rfl | rfl | rfl | rfl | rfl
  · exact by decide +kernel
  · exact by decide +kernel
  · exact by decide +kernel
  · exact by decide +kernel
  · exact by decide +kernel
  · exact by decide +kernel
  · exact by decide +kernel
  · exact by decide +kernel
theorem zg_n2 : ∀ w ∈ zwNat2, w ∈ zgw := fun _ h => zsg34 h
theorem zg_n3 : ∀ w ∈ zwNat3, w ∈ zgw := fun _ h => zsg35 h
/-- what is said of every method of the table -/
def zeok (e : zMT) : Bool := decide (e.2.2.2.2.2.2 < 8) && decide (e.1.cls = zcn e.2.2.2.2.2.2) && decide (e.1.cls ≠ "java/lang/invoke/MethodHandle") && decide (e.1.cls ≠ "java/lang/invoke/VarHandle") && plainName e.1.cls
  && decide ((parseMethodDescriptor e.1.desc).map (fun d => d.parameters.length) = some (if e.2.2.2.2.2.1 = 0 then e.2.2.2.2.1 else e.2.2.2.2.1 - 1)) && decide (e.2.2.1 ≤ 30) && decide (e.2.2.2.2.1 ≤ e.2.2.1)
  && (if e.2.2.2.2.2.1 = 0 then true else decide (1 ≤ e.2.2.2.2.1)) && (if e.2.2.2.2.2.1 = 2 then decide (e.1.name = "<init>") && decide (e.2.2.2.1 = none) else true) && decide (e.2.2.2.2.2.1 ≤ 2)
set_option maxRecDepth 100000 in
theorem zmt_ok : zmt.all zeok = true := by decide +kernel
theorem zmt_len : zmt.length = 274 := by decide +kernel
