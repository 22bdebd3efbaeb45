/-! numbers of 32 bits, and the small machine's heap as a world of the real one -/
theorem z32_toInt {a : Int} (h : zI a) : (Int32.ofInt a).toInt = a := Int32.toInt_ofInt_of_le (by have := h.1; omega) (by have := h.2; omega)
theorem z32_lt {a b : Int} (ha : zI a) (hb : zI b) : Int32.ofInt a < Int32.ofInt b ↔ a < b := by rw [Int32.lt_iff_toInt_lt, z32_toInt ha, z32_toInt hb]
theorem z32_le {a b : Int} (ha : zI a) (hb : zI b) : Int32.ofInt a ≤ Int32.ofInt b ↔ a ≤ b := by rw [Int32.le_iff_toInt_le, z32_toInt ha, z32_toInt hb]
theorem z32_eq {a b : Int} (ha : zI a) (hb : zI b) : Int32.ofInt a = Int32.ofInt b ↔ a = b := by rw [← Int32.toInt_inj, z32_toInt ha, z32_toInt hb]
theorem z32_clamp {a : Int} (h : zI a) : (Int32.ofInt a).toNatClampNeg = a.toNat := by
  show (Int32.ofInt a).toInt.toNat = _
  rw [z32_toInt h]
theorem z32_in {i : Int} {n : Nat} (h : zI i) (h0 : 0 ≤ i) (h1 : i < n) : vp_in (Int32.ofInt i) n := vp_in_iff.mpr (by rw [z32_toInt h]; exact ⟨h0, h1⟩)
theorem zI_toInt (x : Int32) : zI x.toInt := ⟨by have := x.le_toInt; omega, by have := x.toInt_lt; omega⟩
theorem z32_neg {a : Int} (h : zI a) : Int32.ofInt a < 0 ↔ a < 0 := by
  have := z32_lt h (b := 0) ⟨by decide, by decide⟩
  simpa using this
theorem zand_of (a b : Int) : Int32.ofInt (zand a b) = Int32.ofInt a &&& Int32.ofInt b := Int32.ofInt_toInt _
theorem zor_of (a b : Int) : Int32.ofInt (zor a b) = Int32.ofInt a ||| Int32.ofInt b := Int32.ofInt_toInt _
theorem zxor_of (a b : Int) : Int32.ofInt (zxor a b) = Int32.ofInt a ^^^ Int32.ofInt b := Int32.ofInt_toInt _
theorem zshl_of (a b : Int) : Int32.ofInt (zshl a b) = Int32.ofInt a <<< (Int32.ofInt b &&& 31) := Int32.ofInt_toInt _
theorem zshr_of (a b : Int) : Int32.ofInt (zshr a b) = Int32.ofInt a >>> (Int32.ofInt b &&& 31) := Int32.ofInt_toInt _
theorem z32_div {a b : Int} (ha : zI a) (hb : zI b) : Int32.ofInt (a.tdiv b) = Int32.ofInt a / Int32.ofInt b :=
  Int32.ofInt_tdiv (by rw [show Int32.minValue.toInt = -2147483648 by decide]; exact ha.1) (by rw [show Int32.maxValue.toInt = 2147483647 by decide]; exact ha.2) (by rw [show Int32.minValue.toInt = -2147483648 by decide]; exact hb.1) (by rw [show Int32.maxValue.toInt = 2147483647 by decide]; exact hb.2)
theorem z32_mod {a b : Int} (ha : zI a) (hb : zI b) : Int32.ofInt (a.tmod b) = Int32.ofInt a - Int32.ofInt a / Int32.ofInt b * Int32.ofInt b := by
  rw [← z32_div ha hb, ← Int32.ofInt_mul, ← Int32.ofInt_sub]
  congr 1
  have := Int.tmod_add_mul_tdiv a b
  rw [Int.mul_comm] at this
  omega
theorem z32_ne0 {b : Int} (hb : zI b) (h : b ≠ 0) : ¬ Int32.ofInt b = 0 := by
  intro q
  have h2 : Int32.ofInt b = Int32.ofInt 0 := q
  exact h ((z32_eq hb ⟨by decide, by decide⟩).mp h2)
theorem z32_i8 {n : Int} (h : -128 ≤ n ∧ n ≤ 127) : (Int8.ofInt n).toInt32 = Int32.ofInt n := by
  apply Int32.toInt_inj.mp
  rw [z32_toInt ⟨by omega, by omega⟩, Int8.toInt_toInt32]
  exact Int8.toInt_ofInt_of_le (by omega) (by omega)
theorem z32_i16 {n : Int} (h : -32768 ≤ n ∧ n ≤ 32767) : (Int16.ofInt n).toInt32 = Int32.ofInt n := by
  apply Int32.toInt_inj.mp
  rw [z32_toInt ⟨by omega, by omega⟩, Int16.toInt_toInt32]
  exact Int16.toInt_ofInt_of_le (by omega) (by omega)
theorem z32_max {a b : Int} (ha : zI a) (hb : zI b) : Int32.ofInt (max a b) = if Int32.ofInt a < Int32.ofInt b then Int32.ofInt b else Int32.ofInt a := by
  by_cases h : a < b
  · rw [if_pos ((z32_lt ha hb).mpr h), show max a b = b by omega]
  · rw [if_neg (fun q => h ((z32_lt ha hb).mp q)), show max a b = a by omega]
theorem z32_min {a b : Int} (ha : zI a) (hb : zI b) : Int32.ofInt (min a b) = if Int32.ofInt b < Int32.ofInt a then Int32.ofInt b else Int32.ofInt a := by
  by_cases h : b < a
  · rw [if_pos ((z32_lt hb ha).mpr h), show min a b = b by omega]
  · rw [if_neg (fun q => h ((z32_lt hb ha).mp q)), show min a b = a by omega]
abbrev zC3 : Type := ClassId × ClassId × ClassId
abbrev zTys (ca : zC3) : List (ClassId × FieldType) := [(ca.1, .int), (ca.2.1, .boolean), (ca.2.2, .object RX5)]
def zml (m : Nat) : Nat := match zmt[m]? with
  | some e => e.2.2.1
  | none => 4
def zad (base b o : Nat) : Nat := if o = 1000000 then b else base + o
theorem zad_eq {base b o : Nat} (h : o < 1000000) : zad base b o = base + o := if_neg (by omega)
def ztv (base b : Nat) (v : zV) : Value := match v with
  | .inl n => .int (Int32.ofInt n)
  | .inr (some o) => .ref (zad base b o)
  | .inr none => .null
def zVI (v : zV) : Prop := match v with
  | .inl n => zI n
  | .inr _ => True
def zfv (base b ci : Nat) (h : zH) (o k : Nat) : Value := if zcy ci k = .int then .int (Int32.ofInt (h.2.1 o k)) else va_rf ((h.2.2 o k).map (zad base b))
def zcell (ca : zC3) (base b : Nat) (h : zH) (o : Nat) (kd : Nat × Nat) : va_E := match kd.1 with
  | 0 => .inl (ca.1, kd.2, .inl (fun j => Int32.ofInt (h.2.1 o j)))
  | 1 => .inl (ca.2.1, kd.2, .inl (fun j => Int32.ofInt (h.2.1 o j)))
  | 2 => .inl (ca.2.2, kd.2, .inr (.inr (.inr (.inr (fun j => (h.2.2 o j).map (zad base b))))))
  | ci + 3 => .inr (ci, (List.range (zcN ci)).map (zfv base b ci h o))
def ztw (ca : zC3) (base b : Nat) (h : zH) : va_W := h.1.mapIdx (fun o kd => (base + o, zcell ca base b h o kd))
theorem ztw_get {ca : zC3} {base b o : Nat} {h : zH} {kd : Nat × Nat} (hk : h.1[o]? = some kd) : (ztw ca base b h)[o]? = some (base + o, zcell ca base b h o kd) := by
  simp [ztw, List.getElem?_mapIdx, hk]
theorem zcell_eq {ca : zC3} {base b o : Nat} {h h' : zH} (h1 : h'.2.1 o = h.2.1 o) (h2 : h'.2.2 o = h.2.2 o) (kd : Nat × Nat) : zcell ca base b h' o kd = zcell ca base b h o kd := by
  unfold zcell zfv
  simp only [h1, h2]
/-- one object is changed -/
theorem ztw_set {ca : zC3} {base b o : Nat} {h h' : zH} {kd : Nat × Nat} (hk : h'.1 = h.1) (ho : h.1[o]? = some kd) (h1 : ∀ j, j ≠ o → h'.2.1 j = h.2.1 j) (h2 : ∀ j, j ≠ o → h'.2.2 j = h.2.2 j) :
    (ztw ca base b h).set o (base + o, zcell ca base b h' o kd) = ztw ca base b h' := by
  apply List.ext_getElem?
  intro j
  by_cases hj : j = o
  · subst hj
    rw [List.getElem?_set_self (by simp [ztw]; exact (List.getElem?_eq_some_iff.mp ho).1), ztw_get (h := h') (by rw [hk]; exact ho)]
  · rw [List.getElem?_set_ne (Ne.symm hj)]
    unfold ztw
    rw [hk, List.getElem?_mapIdx, List.getElem?_mapIdx]
    cases h.1[j]? with
    | none => rfl
    | some q => simp [zcell_eq (h1 j hj) (h2 j hj)]
/-- one object is made -/
theorem ztw_push {ca : zC3} {base b : Nat} {h : zH} (kd : Nat × Nat) : ztw ca base b (h.1 ++ [kd], zclr h.2.1 h.1.length, zclrR h.2.2 h.1.length) = ztw ca base b h ++ [(base + h.1.length, zcell ca base b (h.1 ++ [kd], zclr h.2.1 h.1.length, zclrR h.2.2 h.1.length) h.1.length kd)] := by
  unfold ztw
  rw [List.mapIdx_append]
  congr 1
  · apply List.ext_getElem?
    intro j
    rw [List.getElem?_mapIdx, List.getElem?_mapIdx]
    cases hj : h.1[j]? with
    | none => rfl
    | some q =>
      have hl := (List.getElem?_eq_some_iff.mp hj).1
      have : j ≠ h.1.length := by omega
      simp only [Option.map_some, Option.some.injEq, Prod.mk.injEq, true_and]
      exact zcell_eq (by simp [zclr, this]) (by simp [zclrR, this]) q
  · simp
def zlv (base b : Nat) : Nat → List zV → List (Nat × Value)
  | _, [] => []
  | i, v :: l => if v = .inr none then zlv base b (i + 1) l else (i, ztv base b v) :: zlv base b (i + 1) l
theorem zlv_mem {base b : Nat} : ∀ {l : List zV} {k i : Nat} {v : zV}, zget l k = v → v ≠ .inr none → (i + k, ztv base b v) ∈ zlv base b i l
  | [], k, i, v, h, hv => absurd h.symm hv
  | w :: l, 0, i, v, h, hv => by
    have : w = v := h
    subst this
    unfold zlv
    rw [if_neg hv]
    exact List.mem_cons_self
  | w :: l, k + 1, i, v, h, hv => by
    have h2 := zlv_mem (base := base) (b := b) (i := i + 1) (show zget l k = v from h) hv
    rw [show i + (k + 1) = i + 1 + k by omega]
    unfold zlv
    split
    · exact h2
    · exact List.mem_cons_of_mem _ h2
theorem zlv_le {base b : Nat} : ∀ {l : List zV} {i : Nat} {q : Nat × Value}, q ∈ zlv base b i l → i ≤ q.1
  | [], i, q, h => by simp [zlv] at h
  | w :: l, i, q, h => by
    unfold zlv at h
    split at h
    · have := zlv_le h; omega
    · rcases List.mem_cons.mp h with rfl | h
      · exact Nat.le_refl _
      · have := zlv_le h; omega
theorem zlv_cat {base b : Nat} {v : zV} : (ztv base b v).category = 1 := by
  rcases v with n | _ | o <;> rfl
theorem zlv_cat2 {base b : Nat} : ∀ {l : List zV} {i : Nat} {q : Nat × Value}, q ∈ zlv base b i l → q.2.category = 1
  | [], i, q, h => by simp [zlv] at h
  | w :: l, i, q, h => by
    unfold zlv at h
    split at h
    · exact zlv_cat2 h
    · rcases List.mem_cons.mp h with rfl | h
      · exact zlv_cat
      · exact zlv_cat2 h
theorem zlv_set {base b : Nat} : ∀ {l : List zV} {k i : Nat} {x : zV} {q : Nat × Value}, q ∈ zlv base b i (zset l k x) → q = (i + k, ztv base b x) ∨ (q ∈ zlv base b i l ∧ q.1 ≠ i + k)
  | [], k, i, x, q, h => by simp [zset, zlv] at h
  | w :: l, 0, i, x, q, h => by
    have h2 : q ∈ zlv base b i (x :: l) := h
    unfold zlv at h2
    split at h2
    · right
      refine ⟨?_, by have := zlv_le h2; omega⟩
      unfold zlv
      split
      · exact h2
      · exact List.mem_cons_of_mem _ h2
    · rcases List.mem_cons.mp h2 with rfl | h3
      · exact Or.inl rfl
      · right
        refine ⟨?_, by have := zlv_le h3; omega⟩
        unfold zlv
        split
        · exact h3
        · exact List.mem_cons_of_mem _ h3
  | w :: l, k + 1, i, x, q, h => by
    have h2 : q ∈ zlv base b i (w :: zset l k x) := h
    rw [show i + (k + 1) = i + 1 + k by omega]
    unfold zlv at h2 ⊢
    by_cases hw : w = .inr none
    · rw [if_pos hw] at h2 ⊢
      exact zlv_set h2
    · rw [if_neg hw] at h2 ⊢
      rcases List.mem_cons.mp h2 with rfl | h3
      · exact Or.inr ⟨List.mem_cons_self, by show i ≠ _; omega⟩
      · rcases zlv_set h3 with h4 | ⟨h4, h5⟩
        · exact Or.inl h4
        · exact Or.inr ⟨List.mem_cons_of_mem _ h4, h5⟩
theorem zset_len : ∀ (l : List zV) (k : Nat) (x : zV), (zset l k x).length = l.length
  | [], _, _ => rfl
  | _ :: _, 0, _ => rfl
  | _ :: l, k + 1, x => by simp [zset, zset_len l k x]
theorem zset_all {P : zV → Prop} : ∀ {l : List zV} {k : Nat} {x : zV}, (∀ v ∈ l, P v) → P x → ∀ v ∈ zset l k x, P v
  | [], _, _, h, _ => h
  | w :: l, 0, x, h, hx => List.forall_mem_cons.mpr ⟨hx, (List.forall_mem_cons.mp h).2⟩
  | w :: l, k + 1, x, h, hx => List.forall_mem_cons.mpr ⟨(List.forall_mem_cons.mp h).1, zset_all (List.forall_mem_cons.mp h).2 hx⟩
theorem zget_all {P : zV → Prop} (h0 : P (.inr none)) : ∀ {l : List zV} {k : Nat}, (∀ v ∈ l, P v) → P (zget l k)
  | [], _, _ => h0
  | w :: l, 0, h => (List.forall_mem_cons.mp h).1
  | _ :: l, k + 1, h => show P (zget l k) from zget_all h0 (List.forall_mem_cons.mp h).2
def zsz (kd : Nat × Nat) : Nat := match kd.1 with
  | 0 => kd.2
  | 1 => kd.2
  | 2 => kd.2
  | ci + 3 => zcN ci
def zsl (ks : List (Nat × Nat)) : Nat := (ks.map zsz).sum
theorem zsl_push (ks : List (Nat × Nat)) (kd : Nat × Nat) : zsl (ks ++ [kd]) = zsl ks + zsz kd := by simp [zsl]
