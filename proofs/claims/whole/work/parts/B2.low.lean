/-! THE LOWEST PLACE; the steps room and fill -/
section BM
variable {im X Y : zM} {c c' s sp A B w w' T : Int → Int} {e f a b x y d k m n u un st bg en bu v sz : Int} {z : zSS} {p q r : Int → Bool} {l : List (Int × Int)}
theorem neg_bits : ∀ n, n < 11 → ∀ i, i < 32 → (Int32.ofInt (-(2 ^ n : Int))).toBitVec.getLsbD i = decide (n ≤ i) := by decide +kernel
theorem zand_neg {n x : Nat} (hn : n < 11) (hx : x < 2147483648) : zand (x : Nat) (-(2 ^ n : Int)) = ((x / 2 ^ n * 2 ^ n : Nat) : Int) := by
  have hle : x / 2 ^ n * 2 ^ n ≤ x := Nat.div_mul_le_self x (2 ^ n)
  refine i32_nat ?_ (by omega)
  show ((Int32.ofInt (x : Nat)).toBitVec &&& (Int32.ofInt (-(2 ^ n : Int))).toBitVec).toNat = _
  rw [ofInt_nat hx]
  refine Nat.eq_of_testBit_eq fun i => ?_
  rw [BitVec.toNat_and, Nat.testBit_and, bvn hx, BitVec.testBit_toNat, ← Nat.shiftRight_eq_div_pow, ← Nat.shiftLeft_eq, Nat.testBit_shiftLeft, Nat.testBit_shiftRight]
  by_cases hi : i < 32
  · rw [neg_bits n hn i hi]
    by_cases q : n ≤ i
    · rw [decide_eq_true q, show n + (i - n) = i by omega]
      simp [q]
    · rw [decide_eq_false q]
      simp [q]
  · have e0 : x.testBit i = false := Nat.testBit_lt_two_pow (Nat.lt_of_lt_of_le hx (Nat.pow_le_pow_right (n := 2) (by omega) (show 31 ≤ i by omega)))
    rw [e0, show n + (i - n) = i by omega, e0]
    simp
/-- rounding up to a power of two -/
theorem rup_eq {n : Nat} (hn : n < 11) (hv : 0 ≤ v ∧ v ≤ 1000000000) : rup v (2 ^ n) = rupM v (2 ^ n) := by
  have hp : 1 ≤ (2 : Nat) ^ n ∧ (2 : Nat) ^ n ≤ 1024 := ⟨Nat.one_le_two_pow, Nat.pow_le_pow_right (n := 2) (by omega) (show n ≤ 10 by omega)⟩
  have ep : (2 : Int) ^ n = ((2 ^ n : Nat) : Int) := by simp
  obtain ⟨x, hx⟩ : ∃ x : Nat, v + 2 ^ n - 1 = (x : Int) := ⟨(v + 2 ^ n - 1).toNat, by rw [ep]; omega⟩
  unfold rup rupM
  rw [hx, zand_neg hn (by rw [ep] at hx; omega)]
  simp
theorem rup_sp {n : Nat} (hn : n < 11) (hv : 0 ≤ v ∧ v ≤ 1000000000) : v ≤ rup v (2 ^ n) ∧ rup v (2 ^ n) % 2 ^ n = 0 ∧ ∀ u, v ≤ u → u % 2 ^ n = 0 → rup v (2 ^ n) ≤ u := by
  have hp : 1 ≤ (2 : Nat) ^ n ∧ (2 : Nat) ^ n ≤ 1024 := ⟨Nat.one_le_two_pow, Nat.pow_le_pow_right (n := 2) (by omega) (show n ≤ 10 by omega)⟩
  have ep : (2 : Int) ^ n = ((2 ^ n : Nat) : Int) := by simp
  rw [rup_eq hn hv]
  have hb := rupM_bd (v := v) (s := 2 ^ n) hv.1 (by rw [ep]; omega)
  refine ⟨hb.1, ?_, fun u h1 h2 => ?_⟩
  · unfold rupM
    exact Int.mul_emod_left _ _
  · have hm : rupM v (2 ^ n) % 2 ^ n = 0 := by
      unfold rupM
      exact Int.mul_emod_left _ _
    generalize (2 : Int) ^ n = s at *
    have hs : 0 < s := by omega
    obtain ⟨a, ha⟩ := Int.dvd_of_emod_eq_zero h2
    obtain ⟨b, hb'⟩ := Int.dvd_of_emod_eq_zero hm
    by_cases q : rupM v s ≤ u
    · exact q
    · exfalso
      have h3 : a < b := by
        by_cases t : a < b
        · exact t
        · have : s * b ≤ s * a := Int.mul_le_mul_of_nonneg_left (by omega) (by omega)
          omega
      have h4 : s * (a + 1) ≤ s * b := Int.mul_le_mul_of_nonneg_left (by omega) (by omega)
      rw [Int.mul_add, Int.mul_one] at h4
      omega
/-- the lowest place where something holds -/
def LowSp (F : Int → Prop) (bg en st sz r : Int) : Prop := (r = -1 ∧ ∀ u, bg ≤ u → u % st = 0 → u + sz ≤ en → ¬ F u) ∨ (bg ≤ r ∧ r % st = 0 ∧ r + sz ≤ en ∧ F r ∧ ∀ u, bg ≤ u → u % st = 0 → u < r → ¬ F u)
theorem LowSp_uniq {F F' : Int → Prop} {r r' : Int} (hF : ∀ u, bg ≤ u → u + sz ≤ en → (F u ↔ F' u)) (hb : 0 ≤ bg) (h : LowSp F bg en st sz r) (h' : LowSp F' bg en st sz r') : r = r' := by
  rcases h with ⟨h1, h2⟩ | ⟨h1, h2, h3, h4, h5⟩ <;> rcases h' with ⟨g1, g2⟩ | ⟨g1, g2, g3, g4, g5⟩
  · omega
  · exact absurd ((hF r' g1 g3).mpr g4) (h2 r' g1 g2 g3)
  · exact absurd ((hF r h1 h3).mp h4) (g2 r h1 h2 h3)
  · by_cases c1 : r < r'
    · exact absurd ((hF r h1 h3).mp h4) (g5 r h1 h2 c1)
    · by_cases c2 : r' < r
      · exact absurd ((hF r' g1 g3).mpr g4) (h5 r' g1 g2 c2)
      · omega
/-- a place meets nothing of a shelf -/
def FreS (z : zSS) (un u : Int) : Prop := ∀ i : Int, 0 ≤ i → i < z.2.2.2.2.2 → ¬ (z.2.2.2.2.1 i < u + un ∧ u < z.2.2.2.2.1 i + z.2.2.2.1 i)
theorem met_iff (h0 : 0 ≤ z.2.2.2.2.2) (h1 : z.2.2.2.2.2 ≤ 27) : metS z.2.2.2.2.1 z.2.2.2.1 z.2.2.2.2.2 u un (-1) = -1 ↔ FreS z un u := by
  unfold metS FreS
  rw [ff_negI _ _ (by omega)]
  constructor
  · intro h i i0 i1 q
    have := of_decide_eq_false (h i i0 (by omega))
    exact this ⟨by omega, q.1, q.2⟩
  · intro h i i0 i1
    refine decide_eq_false (fun q => h i i0 (by omega) ⟨q.2.1, q.2.2⟩)
theorem cnt_strict (n : Nat) (hpq : ∀ j : Int, 0 ≤ j → j < n → p j = true → q j = true) {i : Int} (i0 : 0 ≤ i) (i1 : i < n) (hp : p i = false) (hq : q i = true) : lp (cntf p) n 0 0 + 1 ≤ lp (cntf q) n 0 0 := by
  have h := cnt_add (p := q) (q := p) (r := fun j => q j && !p j) n 0 0 0 (fun j j0 j1 => by
    have := hpq j j0 (by omega)
    cases h1 : p j <;> cases h2 : q j <;> simp_all)
  have h2 : ¬ lp (cntf (fun j => q j && !p j)) n 0 0 ≤ 0 := fun s => by
    have := (cnt_zero n 0 0).mp s i i0 (by omega)
    rw [hp, hq] at this
    exact absurd this (by decide)
  rw [show (0 : Int) + 0 = 0 from rfl] at h
  omega
theorem lowf_sp {n : Nat} (hn : n < 11) (h0 : 0 ≤ z.2.2.2.2.2) (h1 : z.2.2.2.2.2 ≤ 27) (hb : ∀ i : Int, 0 ≤ i → i < z.2.2.2.2.2 → 0 ≤ z.2.2.2.2.1 i + z.2.2.2.1 i ∧ z.2.2.2.2.1 i + z.2.2.2.1 i ≤ 1000000000) : ∀ (m : Nat) (wh : Int), bg ≤ wh → wh % 2 ^ n = 0 → (∀ u, bg ≤ u → u % 2 ^ n = 0 → u < wh → ¬ FreS z un u) → lp (cntf (fun i => decide (wh < z.2.2.2.2.1 i + z.2.2.2.1 i))) z.2.2.2.2.2.toNat 0 0 < m → LowSp (FreS z un) bg en (2 ^ n) un (lowf z.2.2.2.2.1 z.2.2.2.1 z.2.2.2.2.2 un (2 ^ n) en m wh)
  | 0, wh, _, _, _, hc => by
    have := (cntN_bd (p := fun i => decide (wh < z.2.2.2.2.1 i + z.2.2.2.1 i)) z.2.2.2.2.2.toNat 0 0).1
    omega
  | m + 1, wh, w1, w2, w3, hc => by
    simp only [lowf]
    by_cases c1 : en < wh + un
    · rw [if_pos c1]
      refine Or.inl ⟨rfl, fun u u0 u1 u2 => ?_⟩
      exact w3 u u0 u1 (by omega)
    · rw [if_neg c1]
      by_cases c2 : metS z.2.2.2.2.1 z.2.2.2.1 z.2.2.2.2.2 wh un (-1) = -1
      · rw [if_pos c2]
        exact Or.inr ⟨w1, w2, by omega, (met_iff h0 h1).mp c2, w3⟩
      · rw [if_neg c2]
        rcases metS_cases z.2.2.2.2.1 z.2.2.2.1 z.2.2.2.2.2 wh un (-1) with hm | ⟨g1, g2, g3, g4, g5⟩
        · exact absurd hm c2
        · have hbi := hb _ g1 g3
          obtain ⟨r1, r2, r3⟩ := rup_sp hn hbi
          refine lowf_sp hn h0 h1 hb m _ (by omega) r2 (fun u u0 u1 u2 => ?_) ?_
          · by_cases c3 : u < wh
            · exact w3 u u0 u1 c3
            · intro hf
              refine hf _ g1 g3 ⟨by omega, ?_⟩
              by_cases c4 : u < z.2.2.2.2.1 (metS z.2.2.2.2.1 z.2.2.2.1 z.2.2.2.2.2 wh un (-1)) + z.2.2.2.1 (metS z.2.2.2.2.1 z.2.2.2.1 z.2.2.2.2.2 wh un (-1))
              · exact c4
              · have := r3 u (by omega) u1
                omega
          · have := cnt_strict (p := fun i => decide (rup (z.2.2.2.2.1 (metS z.2.2.2.2.1 z.2.2.2.1 z.2.2.2.2.2 wh un (-1)) + z.2.2.2.1 (metS z.2.2.2.2.1 z.2.2.2.1 z.2.2.2.2.2 wh un (-1))) (2 ^ n) < z.2.2.2.2.1 i + z.2.2.2.1 i)) (q := fun i => decide (wh < z.2.2.2.2.1 i + z.2.2.2.1 i)) z.2.2.2.2.2.toNat (fun j j0 j1 hj => decide_eq_true (by have := of_decide_eq_true hj; omega)) g1 (by omega) (decide_eq_false (by omega)) (decide_eq_true (by omega))
            omega
theorem lowS_sp {n : Nat} (hn : n < 11) (h0 : 0 ≤ z.2.2.2.2.2) (h1 : z.2.2.2.2.2 ≤ 27) (hb : ∀ i : Int, 0 ≤ i → i < z.2.2.2.2.2 → 0 ≤ z.2.2.2.2.1 i + z.2.2.2.1 i ∧ z.2.2.2.2.1 i + z.2.2.2.1 i ≤ 1000000000) (hbg : 0 ≤ bg ∧ bg ≤ 1000000000) : LowSp (FreS z un) bg en (2 ^ n) un (lowS z un (2 ^ n) bg en) := by
  obtain ⟨r1, r2, r3⟩ := rup_sp hn hbg
  have hc := (cntN_bd (p := fun i => decide (rup bg (2 ^ n) < z.2.2.2.2.1 i + z.2.2.2.1 i)) z.2.2.2.2.2.toNat 0 0).2
  unfold lowS
  exact lowf_sp hn h0 h1 hb _ _ r1 r2 (fun u u0 u1 u2 => by
    have := r3 u u0 u1
    omega) (by omega)
theorem loM_sp (hst : 1 ≤ st) : ∀ (m : Nat) (v : Int), bg ≤ v → v % st = 0 → (∀ u, bg ≤ u → u % st = 0 → u < v → ¬ frT T u sz) → en < v + sz + m → LowSp (fun u => frT T u sz) bg en st sz (loM T sz st en m v)
  | 0, v, v1, v2, v3, hm => Or.inl ⟨rfl, fun u u0 u1 u2 => v3 u u0 u1 (by omega)⟩
  | m + 1, v, v1, v2, v3, hm => by
    simp only [loM]
    by_cases c1 : v + sz ≤ en
    · rw [if_pos c1]
      by_cases c2 : frT T v sz
      · rw [if_pos c2]
        exact Or.inr ⟨v1, v2, c1, c2, v3⟩
      · rw [if_neg c2]
        refine loM_sp hst m (v + st) (by omega) (by rw [Int.add_emod_right]; exact v2) (fun u u0 u1 u2 => ?_) (by omega)
        by_cases c3 : u < v
        · exact v3 u u0 u1 c3
        · by_cases c4 : u = v
          · rw [c4]
            exact c2
          · exfalso
            obtain ⟨a, ha⟩ := Int.dvd_of_emod_eq_zero v2
            obtain ⟨b, hb⟩ := Int.dvd_of_emod_eq_zero u1
            have h3 : a < b := by
              by_cases t : a < b
              · exact t
              · have : st * b ≤ st * a := Int.mul_le_mul_of_nonneg_left (by omega) (by omega)
                omega
            have h4 : st * (a + 1) ≤ st * b := Int.mul_le_mul_of_nonneg_left (by omega) (by omega)
            rw [Int.mul_add, Int.mul_one] at h4
            omega
    · rw [if_neg c1]
      exact Or.inl ⟨rfl, fun u u0 u1 u2 => v3 u u0 u1 (by omega)⟩
/-- a place meets no stretch of a list -/
def FreL (l : List (Int × Int)) (sz u : Int) : Prop := ∀ p ∈ l, ¬ (p.1 < u + sz ∧ u < p.1 + p.2)
theorem cv_nn (u : Int) (p : Int × Int) : 0 ≤ cvP u p ∧ cvP u p ≤ 1 := by
  unfold cvP
  split <;> omega
theorem smL_pos {α : Type} {g : α → Int} : ∀ l : List α, (∀ x ∈ l, 0 ≤ g x) → (0 < smL g l ↔ ∃ x ∈ l, 0 < g x)
  | [], _ => by
    simp only [smL]
    exact ⟨fun h => by omega, fun ⟨x, hx, _⟩ => absurd hx List.not_mem_nil⟩
  | x :: l, h => by
    simp only [smL]
    have h0 := h x List.mem_cons_self
    have hl := smL_nn l (fun y hy => h y (List.mem_cons_of_mem _ hy))
    have ih := smL_pos l (fun y hy => h y (List.mem_cons_of_mem _ hy))
    constructor
    · intro q
      by_cases c : 0 < g x
      · exact ⟨x, List.mem_cons_self, c⟩
      · obtain ⟨y, hy, hy2⟩ := ih.mp (by omega)
        exact ⟨y, List.mem_cons_of_mem _ hy, hy2⟩
    · rintro ⟨y, hy, hy2⟩
      rcases List.mem_cons.mp hy with rfl | hy
      · omega
      · have := ih.mpr ⟨y, hy, hy2⟩
        omega
theorem fr_iff (hT : TR T l) (hl : ∀ p ∈ l, 1 ≤ p.2) (hs : 1 ≤ sz) (hu : 0 ≤ u ∧ u + sz ≤ 1024) : frT T u sz ↔ FreL l sz u := by
  unfold frT FreL
  rw [ff_negI _ _ hu.1]
  constructor
  · intro h p hp q
    have h1 := hl p hp
    have hj := of_decide_eq_false (h (max u p.1) (by omega) (by omega))
    rw [hT _ (by omega) (by omega)] at hj
    refine hj ((smL_pos l (fun x _ => (cv_nn _ x).1)).mpr ⟨p, hp, ?_⟩)
    unfold cvP
    rw [if_pos (by omega)]
    omega
  · intro h j j0 j1
    refine decide_eq_false (fun q => ?_)
    rw [hT _ (by omega) (by omega)] at q
    obtain ⟨p, hp, hp2⟩ := (smL_pos l (fun x _ => (cv_nn _ x).1)).mp q
    unfold cvP at hp2
    split at hp2
    · rename_i c1
      exact h p hp ⟨by omega, by omega⟩
    · omega
/-- the same stretches on a shelf and in a list -/
def SmSt (z : zSS) (l : List (Int × Int)) : Prop := (0 ≤ z.2.2.2.2.2 ∧ z.2.2.2.2.2 ≤ 27) ∧ (∀ i : Int, 0 ≤ i → i < z.2.2.2.2.2 → (z.2.2.2.2.1 i, z.2.2.2.1 i) ∈ l) ∧ (∀ p ∈ l, ∃ i : Int, 0 ≤ i ∧ i < z.2.2.2.2.2 ∧ (z.2.2.2.2.1 i, z.2.2.2.1 i) = p) ∧ ∀ p ∈ l, 1 ≤ p.2 ∧ 0 ≤ p.1 ∧ p.1 + p.2 ≤ 1024
theorem SmSt_fre (h : SmSt z l) : FreS z un u ↔ FreL l un u := by
  constructor
  · intro q p hp
    obtain ⟨i, i0, i1, rfl⟩ := h.2.2.1 p hp
    exact q i i0 i1
  · intro q i i0 i1
    exact q _ (h.2.1 i i0 i1)
theorem SmSt_bd (h : SmSt z l) : ∀ i : Int, 0 ≤ i → i < z.2.2.2.2.2 → 0 ≤ z.2.2.2.2.1 i + z.2.2.2.1 i ∧ z.2.2.2.2.1 i + z.2.2.2.1 i ≤ 1000000000 := fun i i0 i1 => by
  have := h.2.2.2 _ (h.2.1 i i0 i1)
  dsimp only at this
  omega
theorem loW_sp {n : Nat} (hn : n < 11) (hT : TR T l) (hl : ∀ p ∈ l, 1 ≤ p.2) (hs : 1 ≤ sz ∧ sz ≤ 1024) (hw : BwM A bu k) (hnz : wiM A bu k ≠ 0) : LowSp (FreL l sz) (beM A bu k) (beM A bu k + wiM A bu k) (2 ^ n) sz (loW A T bu k sz (2 ^ n)) := by
  have hp : 1 ≤ (2 : Nat) ^ n ∧ (2 : Nat) ^ n ≤ 1024 := ⟨Nat.one_le_two_pow, Nat.pow_le_pow_right (n := 2) (by omega) (show n ≤ 10 by omega)⟩
  have ep : (2 : Int) ^ n = ((2 ^ n : Nat) : Int) := by simp
  obtain ⟨w1, w2, w3⟩ := hw
  have hb := w3.resolve_left hnz
  obtain ⟨r1, r2, r3⟩ := rup_sp hn (v := beM A bu k) (by omega)
  rw [rup_eq hn (by omega)] at r1 r2 r3
  have h := loM_sp (T := T) (sz := sz) (st := 2 ^ n) (bg := beM A bu k) (en := beM A bu k + wiM A bu k) (by rw [ep]; omega) 1100 (rupM (beM A bu k) (2 ^ n)) r1 r2 (fun u u0 u1 u2 => by
    have := r3 u u0 u1
    omega) (by omega)
  unfold loW
  rw [if_neg hnz]
  rcases h with ⟨h1, h2⟩ | ⟨h1, h2, h3, h4, h5⟩
  · exact Or.inl ⟨h1, fun u u0 u1 u2 hf => h2 u u0 u1 u2 ((fr_iff hT hl hs.1 (by omega)).mpr hf)⟩
  · exact Or.inr ⟨h1, h2, h3, (fr_iff hT hl hs.1 (by omega)).mp h4, fun u u0 u1 u2 hf => h5 u u0 u1 u2 ((fr_iff hT hl hs.1 (by omega)).mpr hf)⟩
/-- class and reference find the same lowest place -/
theorem low_eq {n : Nat} (hn : n < 11) (hz : SmSt z l) (hT : TR T l) (hs : 1 ≤ sz ∧ sz ≤ 1024) (hw : BwM A bu k) (hbg : bg = if wiM A bu k = 0 then 0 else beM A bu k) (hen : en = bg + wiM A bu k) : lowS z sz (2 ^ n) bg en = loW A T bu k sz (2 ^ n) := by
  by_cases hnz : wiM A bu k = 0
  · rw [if_pos hnz] at hbg
    unfold loW lowS
    obtain ⟨r1, r2, r3⟩ := rup_sp hn (v := bg) (by omega)
    have h0 := hz.1.1
    rw [if_pos hnz, show (z.2.2.2.2.2 + 1).toNat = z.2.2.2.2.2.toNat + 1 by omega, lowf, if_pos (by omega)]
  · rw [if_neg hnz] at hbg
    have hb := hw.2.2.resolve_left hnz
    have h1 := lowS_sp (un := sz) (bg := bg) (en := en) hn hz.1.1 hz.1.2 (SmSt_bd hz) (by omega)
    have h2 := loW_sp hn hT (fun p hp => (hz.2.2.2 p hp).1) hs hw hnz
    rw [← hbg] at h2
    rw [← hen] at h2
    exact LowSp_uniq (fun u _ _ => SmSt_fre hz) (by omega) h1 h2
/-- the shelf of a bus now and what the reference marks -/
theorem SmSt_now (hc : SimC c A) (g : gGd A) (hF : WkF A w n) (h6 : HsB c) (ha : a = -1 ∨ onBr A a) (hk : 0 ≤ k ∧ k < 2) : SmSt (gatS c w n a k z) ((reT A (bfM a) k).map (prT A k)) := by
  obtain ⟨h1, τ, h2, h3, h4⟩ := sh_idx (a := a) hc g hF h6 hk (y' := z) rfl
  generalize gatS c w n a k z = Z at *
  have hm : ∀ t, ThN A a k t ↔ t ∈ reT A (bfM a) k := fun t => by
    rw [mem_reT g.1.1]
    unfold ThN
    constructor
    · rintro ⟨t0, t1, ti, tb⟩
      exact ⟨t0, t1, ti, (bu_iff g.1.1 (de_rg ⟨t0, t1⟩) (bus_rg ha)).mpr tb⟩
    · rintro ⟨t0, t1, ti, tb⟩
      exact ⟨t0, t1, ti, (bu_iff g.1.1 (de_rg ⟨t0, t1⟩) (bus_rg ha)).mp tb⟩
  refine ⟨⟨h1.1, by omega⟩, fun i i0 i1 => ?_, fun p hp => ?_, fun p hp => ?_⟩
  · obtain ⟨⟨e1, e2, e3, e4⟩, ht⟩ := h2 i i0 i1
    rw [e3, e4]
    exact List.mem_map.mpr ⟨τ i, (hm _).mp ht, rfl⟩
  · obtain ⟨t, ht, rfl⟩ := List.mem_map.mp hp
    obtain ⟨i, i0, i1, i2⟩ := h3 t ((hm t).mpr ht)
    obtain ⟨⟨e1, e2, e3, e4⟩, -⟩ := h2 i i0 i1
    refine ⟨i, i0, i1, ?_⟩
    rw [e3, e4, i2]
    rfl
  · obtain ⟨t, ht, rfl⟩ := List.mem_map.mp hp
    obtain ⟨t0, t1, ti, tb⟩ := (mem_reT g.1.1).mp ht
    have hin := (g.2.2.2.2.2.1 t k t0 t1 hk.1 hk.2 ti).2.2.2
    refine ⟨?_, hin⟩
    show 1 ≤ wdT A t k
    obtain ⟨ho, hi⟩ := ti
    unfold wdT
    by_cases q : t < 60
    · rw [if_pos q] at hi ⊢
      have hd : deM t = t / 3 := if_pos q
      rw [hd] at hi ho
      obtain ⟨m, m1, m2⟩ := g.1.2.2.2.2.2.2.2.1 (t / 3) (t % 3) ho.1 (by omega) hi.1
      unfold szT
      rw [m2]
      exact (pow_le8 m m1).1
    · rw [if_neg q] at hi ⊢
      have hd : deM t = t - 60 := if_neg q
      rw [hd] at hi
      omega
theorem sp_room : Sp2 99 (Inv gGd) 119 246 := by
  intro im hI a _ k _
  have hc := Inv_c hI
  have g := Inv_g hI
  have hF := Inv_F hI
  have hC := Inv_Cls hI
  refine (c_room (d := 94) (Inv_hh hI) rfl hF.1.2 (Cls_TG hC) (fun q => ?_)).mpr ?_
  · have h := iw_iff.mp ((hs_iff hc).mp q)
    exact buOK_now hc g (Inv_sp hI) h.1 (by omega)
  by_cases c1 : iwM (im 172) a k
  · rw [if_pos ((hs_iff hc).mpr c1)]
    obtain ⟨h1, h2⟩ := iw_iff.mp c1
    have hk : 0 ≤ k ∧ k < 2 := by omega
    have e172 : hsM im (nowT (im 1 1)) a k 172 = im 172 := hsM_ne (by omega)
    have e181 : hsM im (nowT (im 1 1)) a k 181 = im 181 := hsM_ne (by omega)
    refine ⟨_, rfl, (c_roomM (d := 94) (by rw [e172]; exact g.1.1) (by rw [e172]; exact fun _ => ft_now g h1)).mpr ?_⟩
    rw [e172, e181, if_pos c1]
    refine ⟨?_, Inv_hs hI (fun p h3 h4 => by rw [setc_ne _ _ h4, hsM_ne h3])⟩
    obtain ⟨b1, b2⟩ := beg_now hc g (Inv_sp hI) h1 hk
    have key : ∀ m : Nat, m ≤ 9 → roM (im 172) (laT (im 172) (im 181) (bfM a) k) (bfM a) k m = roS (hsZ im (nowT (im 1 1)) a k) (begf (im (nowT (im 1 1) + 1)) a k) (begf (im (nowT (im 1 1) + 1)) a k + lenf (im (nowT (im 1 1) + 1)) (im (nowT (im 1 1) + 2)) a k) m := by
      intro m
      induction m with
      | zero => exact fun _ => rfl
      | succ m ih =>
        intro hm
        obtain ⟨n, n1, n2, n3⟩ := zshl_pow (x := (m : Int)) (by omega)
        have hp := pow_le8 n n1
        have hl := low_eq (n := n) (l := (reT (im 172) (bfM a) k).map (prT (im 172) k)) (T := laT (im 172) (im 181) (bfM a) k) (sz := 2 ^ n) (by omega) (SmSt_now (z := gsh im 125) hc g hF (Cls_HsB hC) h1 hk) (TR_la g.1.1) (by omega) (bw_now g h1 hk) b2 (by rw [← b1])
        simp only [roM, roS]
        rw [n3, ← hl, ih (by omega)]
        have hcs := lowS_sp (un := 2 ^ n) (bg := begf (im (nowT (im 1 1) + 1)) a k) (en := begf (im (nowT (im 1 1) + 1)) a k + lenf (im (nowT (im 1 1) + 1)) (im (nowT (im 1 1) + 2)) a k) (n := n) (by omega) (SmSt_now (z := gsh im 125) hc g hF (Cls_HsB hC) h1 hk).1.1 (SmSt_now (z := gsh im 125) hc g hF (Cls_HsB hC) h1 hk).1.2 (SmSt_bd (SmSt_now (z := gsh im 125) hc g hF (Cls_HsB hC) h1 hk)) (by have := buOK_now hc g (Inv_sp hI) h1 hk; omega)
        have hbu := (buOK_now hc g (Inv_sp hI) h1 hk).1.1
        show (if lowS (hsZ im (nowT (im 1 1)) a k) _ _ _ _ < 0 then _ else _) = _
        unfold hsZ
        rcases hcs with ⟨q1, -⟩ | ⟨q1, -⟩
        · rw [if_pos (by omega), if_pos q1]
        · rw [if_neg (by omega), if_neg (by omega)]
    rw [key 9 (by omega)]
  · rw [if_neg (fun q => c1 ((hs_iff hc).mp q))]
    refine ⟨_, rfl, (c_roomM (d := 94) g.1.1 (fun q => absurd q c1)).mpr ?_⟩
    rw [if_neg c1]
    exact ⟨rfl, hI⟩
end BM
