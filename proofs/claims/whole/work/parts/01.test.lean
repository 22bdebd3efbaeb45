theorem zz_t1 (a b : Int) (h : a < b) (h2 : b ≤ 5) : a ≤ 4 := by omega
theorem zz_t2 (a b : Int) (h : a < b) (h2 : b ≤ 5) : a ≤ 4 := by grind
theorem zz_t3 (f : Nat → Int) (i j : Nat) (h : ∀ k, k < 5 → f k ≤ 3) (hi : i < 5) (hj : j = i): f j ≤ 4 := by grind
theorem zz_t4 (x : Int32) : Int32.ofInt x.toInt = x := by simp
theorem zz_t5 (a b : Int) : Int32.ofInt (a + b) = Int32.ofInt a + Int32.ofInt b := by exact?
