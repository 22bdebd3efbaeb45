/-! SETS OF DEVICES AS BITS -/
section BT
variable {p q : Int → Bool} {x y : Nat} {e : Int}
def bsN (p : Int → Bool) : Nat → Nat
  | 0 => 0
  | n + 1 => bsN p n ||| (if p (n : Nat) = true then 1 <<< n else 0)
def bs (p : Int → Bool) : Int := (bsN p 20 : Nat)
theorem bsN_bit (p : Int → Bool) : ∀ (n i : Nat), (bsN p n).testBit i = (decide (i < n) && p (i : Nat))
  | 0, i => by simp [bsN]
  | n + 1, i => by
    rw [bsN, Nat.testBit_or, bsN_bit p n i]
    by_cases h : i = n
    · subst h
      by_cases hp : p (i : Nat) = true
      · simp [hp, Nat.testBit_shiftLeft]
      · simp [hp]
    · by_cases hp : p (n : Nat) = true
      · rw [if_pos hp, Nat.one_shiftLeft, Nat.testBit_two_pow]
        have e1 : decide (n = i) = false := decide_eq_false (fun q => h q.symm)
        rw [e1, Bool.or_false]
        by_cases h2 : i < n
        · simp [h2, show i < n + 1 by omega]
        · simp [h2, show ¬ i < n + 1 by omega]
      · rw [if_neg hp, Nat.zero_testBit, Bool.or_false]
        by_cases h2 : i < n
        · simp [h2, show i < n + 1 by omega]
        · simp [h2, show ¬ i < n + 1 by omega]
theorem bsN_lt (p : Int → Bool) : ∀ n, bsN p n < 2 ^ n
  | 0 => by simp [bsN]
  | n + 1 => by
    have h := bsN_lt p n
    rw [bsN]
    refine Nat.or_lt_two_pow ?_ ?_
    · have : 2 ^ n ≤ 2 ^ (n + 1) := Nat.pow_le_pow_right (by omega) (by omega)
      omega
    · split
      · rw [Nat.one_shiftLeft]
        exact Nat.pow_lt_pow_right (by omega) (by omega)
      · exact Nat.two_pow_pos _
theorem bs_lt (p : Int → Bool) : bsN p 20 < 1048576 := bsN_lt p 20
theorem bs_rg (p : Int → Bool) : 0 ≤ bs p ∧ bs p < 1048576 := by
  have := bs_lt p
  unfold bs
  omega
theorem ofInt_nat (h : x < 2147483648) : (Int32.ofInt (x : Nat)).toBitVec = BitVec.ofNat 32 x := by
  show BitVec.ofInt 32 (x : Nat) = _
  rw [BitVec.ofInt_natCast]
theorem i32_nat {b : Int32} (h : b.toBitVec.toNat = x) (hx : x < 2147483648) : b.toInt = (x : Nat) := by
  show b.toBitVec.toInt = _
  rw [BitVec.toInt_eq_toNat_cond, h]
  split
  · rfl
  · omega
theorem bvn (h : x < 2147483648) : (BitVec.ofNat 32 x).toNat = x := by
  rw [BitVec.toNat_ofNat]
  omega
theorem zor_nat (hx : x < 1048576) (hy : y < 1048576) : zor (x : Nat) (y : Nat) = ((x ||| y : Nat) : Int) := by
  refine i32_nat ?_ ?_
  · show ((Int32.ofInt (x : Nat)).toBitVec ||| (Int32.ofInt (y : Nat)).toBitVec).toNat = _
    rw [ofInt_nat (by omega), ofInt_nat (by omega), BitVec.toNat_or, bvn (by omega), bvn (by omega)]
  · have : x ||| y < 2 ^ 20 := Nat.or_lt_two_pow hx hy
    omega
theorem zxor_nat (hx : x < 1048576) (hy : y < 1048576) : zxor (x : Nat) (y : Nat) = ((x ^^^ y : Nat) : Int) := by
  refine i32_nat ?_ ?_
  · show ((Int32.ofInt (x : Nat)).toBitVec ^^^ (Int32.ofInt (y : Nat)).toBitVec).toNat = _
    rw [ofInt_nat (by omega), ofInt_nat (by omega), BitVec.toNat_xor, bvn (by omega), bvn (by omega)]
  · have : x ^^^ y < 2 ^ 20 := Nat.xor_lt_two_pow hx hy
    omega
theorem zand_nat2 (hx : x < 1048576) (hy : y < 1048576) : zand (x : Nat) (y : Nat) = ((x &&& y : Nat) : Int) := by
  refine i32_nat ?_ ?_
  · show ((Int32.ofInt (x : Nat)).toBitVec &&& (Int32.ofInt (y : Nat)).toBitVec).toNat = _
    rw [ofInt_nat (by omega), ofInt_nat (by omega), BitVec.toNat_and, bvn (by omega), bvn (by omega)]
  · have : x &&& y ≤ x := Nat.and_le_left
    omega
theorem zshl_nat : ∀ k : Nat, k < 20 → zshl 1 (k : Nat) = ((1 <<< k : Nat) : Int) := by decide
theorem zshr_nat (hx : x < 1048576) : ∀ k : Nat, k < 20 → zshr (x : Nat) (k : Nat) = ((x >>> k : Nat) : Int) := by
  intro k hk
  refine i32_nat ?_ ?_
  · show ((Int32.ofInt (x : Nat)) >>> (Int32.ofInt (k : Nat) &&& 31)).toBitVec.toNat = _
    have e1 : (Int32.ofInt (k : Nat) &&& 31) = Int32.ofInt (k : Nat) := by
      revert k
      decide
    rw [e1]
    have e2 : ((Int32.ofInt (x : Nat)) >>> (Int32.ofInt (k : Nat))).toBitVec = BitVec.sshiftRight (BitVec.ofNat 32 x) k := by
      show BitVec.sshiftRight' (BitVec.ofInt 32 (x : Nat)) ((BitVec.ofInt 32 (k : Nat)).smod 32) = _
      rw [BitVec.ofInt_natCast, BitVec.ofInt_natCast]
      show BitVec.sshiftRight (BitVec.ofNat 32 x) _ = _
      congr 1
      revert k
      decide
    rw [e2, BitVec.sshiftRight_eq_of_msb_false, BitVec.toNat_ushiftRight, bvn (by omega)]
    rw [BitVec.msb_eq_decide, bvn (by omega)]
    simp
    omega
  · have : x >>> k ≤ x := Nat.shiftRight_le x k
    omega
theorem bs_ext {x : Nat} (hx : x < 1048576) (h : ∀ i : Nat, i < 20 → x.testBit i = p (i : Nat)) : (x : Int) = bs p := by
  unfold bs
  congr 1
  refine Nat.eq_of_testBit_eq fun i => ?_
  rw [bsN_bit]
  by_cases hi : i < 20
  · rw [h i hi]
    simp [hi]
  · have : x.testBit i = false := Nat.testBit_lt_two_pow (Nat.lt_of_lt_of_le hx (Nat.pow_le_pow_right (n := 2) (by omega) (show 20 ≤ i by omega)))
    rw [this]
    simp [hi]
theorem bs_zero : (0 : Int) = bs (fun _ => false) := bs_ext (x := 0) (by omega) (fun i _ => by simp)
theorem bs_congr (h : ∀ i : Int, 0 ≤ i → i < 20 → p i = q i) : bs p = bs q :=
  bs_ext (bs_lt p) (fun i hi => by
    rw [bsN_bit]
    simp [hi, h i (by omega) (by omega)])
theorem bs_one (h : 0 ≤ e ∧ e < 20) : zshl 1 e = bs (fun i => decide (i = e)) := by
  obtain ⟨k, rfl⟩ : ∃ k : Nat, e = k := ⟨e.toNat, by omega⟩
  rw [zshl_nat k (by omega)]
  refine bs_ext ?_ (fun i hi => ?_)
  · rw [Nat.one_shiftLeft]
    exact Nat.pow_lt_pow_right (by omega) (show k < 20 by omega)
  · rw [Nat.one_shiftLeft, Nat.testBit_two_pow]
    by_cases c : k = i
    · subst c
      simp
    · rw [decide_eq_false c]
      symm
      exact decide_eq_false (fun q => c (by omega))
theorem bs_or : zor (bs p) (bs q) = bs (fun i => p i || q i) := by
  unfold bs
  rw [zor_nat (bs_lt p) (bs_lt q)]
  refine bs_ext (Nat.or_lt_two_pow (n := 20) (bs_lt p) (bs_lt q)) (fun i hi => ?_)
  rw [Nat.testBit_or, bsN_bit, bsN_bit]
  simp [hi]
theorem bs_xor : zxor (bs p) (bs q) = bs (fun i => p i ^^ q i) := by
  unfold bs
  rw [zxor_nat (bs_lt p) (bs_lt q)]
  refine bs_ext (Nat.xor_lt_two_pow (n := 20) (bs_lt p) (bs_lt q)) (fun i hi => ?_)
  rw [Nat.testBit_xor, bsN_bit, bsN_bit]
  simp [hi]
theorem bs_and : zand (bs p) (bs q) = bs (fun i => p i && q i) := by
  unfold bs
  rw [zand_nat2 (bs_lt p) (bs_lt q)]
  refine bs_ext ?_ (fun i hi => ?_)
  · have h1 : bsN p 20 &&& bsN q 20 ≤ bsN p 20 := Nat.and_le_left
    have := bs_lt p
    omega
  · rw [Nat.testBit_and, bsN_bit, bsN_bit]
    simp [hi]
theorem zand_not (hx : x < 1048576) (hy : y < 1048576) : zand (x : Nat) (zxor (y : Nat) (-1)) = ((x &&& (1048575 ^^^ y) : Nat) : Int) := by
  have e1 : Int32.ofInt (zxor (y : Nat) (-1)) = Int32.ofInt (y : Nat) ^^^ Int32.ofInt (-1) := by
    show Int32.ofInt (Int32.toInt _) = _
    exact Int32.ofInt_toInt _
  refine i32_nat ?_ ?_
  · show ((Int32.ofInt (x : Nat)).toBitVec &&& (Int32.ofInt (zxor (y : Nat) (-1))).toBitVec).toNat = _
    rw [e1]
    show ((Int32.ofInt (x : Nat)).toBitVec &&& ((Int32.ofInt (y : Nat)).toBitVec ^^^ BitVec.allOnes 32)).toNat = _
    rw [ofInt_nat (by omega), ofInt_nat (by omega), BitVec.toNat_and, BitVec.toNat_xor, bvn (by omega), bvn (by omega)]
    refine Nat.eq_of_testBit_eq fun i => ?_
    rw [Nat.testBit_and, Nat.testBit_xor, Nat.testBit_and, Nat.testBit_xor, BitVec.toNat_allOnes, Nat.testBit_two_pow_sub_one]
    have e3 : (1048575 : Nat).testBit i = decide (i < 20) := Nat.testBit_two_pow_sub_one 20 i
    rw [e3]
    by_cases hi : i < 20
    · simp [hi, show i < 32 by omega]
    · have : x.testBit i = false := Nat.testBit_lt_two_pow (Nat.lt_of_lt_of_le hx (Nat.pow_le_pow_right (n := 2) (by omega) (show 20 ≤ i by omega)))
      rw [this]
      simp
  · have : x &&& (1048575 ^^^ y) ≤ x := Nat.and_le_left
    omega
theorem bs_diff : zand (bs p) (zxor (bs q) (-1)) = bs (fun i => p i && !q i) := by
  unfold bs
  rw [zand_not (bs_lt p) (bs_lt q)]
  refine bs_ext ?_ (fun i hi => ?_)
  · have h1 : bsN p 20 &&& (1048575 ^^^ bsN q 20) ≤ bsN p 20 := Nat.and_le_left
    have := bs_lt p
    omega
  · have e3 : (1048575 : Nat).testBit i = decide (i < 20) := Nat.testBit_two_pow_sub_one 20 i
    rw [Nat.testBit_and, Nat.testBit_xor, bsN_bit, bsN_bit, e3]
    simp [hi]
theorem bs_bit (h : 0 ≤ e ∧ e < 20) : zand (zshr (bs p) e) 1 = if p e = true then 1 else 0 := by
  obtain ⟨k, rfl⟩ : ∃ k : Nat, e = k := ⟨e.toNat, by omega⟩
  have h1 := bs_lt p
  have h2 : bsN p 20 >>> k ≤ bsN p 20 := Nat.shiftRight_le _ k
  unfold bs
  rw [zshr_nat h1 k (by omega), show (1 : Int) = ((1 : Nat) : Int) from rfl, zand_nat2 (by omega) (by omega)]
  have e1 : bsN p 20 >>> k &&& 1 = if p (k : Nat) = true then 1 else 0 := by
    rw [Nat.and_one_is_mod]
    have t : (bsN p 20 >>> k).testBit 0 = p (k : Nat) := by
      rw [Nat.testBit_shiftRight, show (k + 0) = k by omega, bsN_bit]
      simp only [show k < 20 by omega, decide_true, Bool.true_and]
    rw [Nat.testBit_zero] at t
    cases hp : p (k : Nat)
    · rw [hp] at t
      have := of_decide_eq_false t
      rw [if_neg (by decide)]
      omega
    · rw [hp] at t
      have := of_decide_eq_true t
      rw [if_pos rfl]
      exact this
  rw [e1]
  split <;> rfl
end BT
