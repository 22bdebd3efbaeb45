/-! THE MACHINE WITHOUT MAKING: the objects are those that the constructors made; only numbers change. wp: a run ends, and ends well -/
/-- what zy doesn't do: making, and changing references -/
def zalc (i : Instr) : Bool := match i with
  | .new _ => true
  | .newarray _ => true
  | .anewarray _ => true
  | .aastore => true
  | .putstatic _ => true
  | _ => false
def zsB (x : zE) (i : Instr) (ls st : List zV) (im : zM) : Option (List zV × List zV × zM) := if zalc i then none else match zs x i ls st (K0, im, R0) with
  | some (ls', st', h') => some (ls', st', h'.2.1)
  | none => none
theorem zsB_ok {x : zE} {i : Instr} {ls st ls' st' : List zV} {im im' : zM} (h : zsB x i ls st im = some (ls', st', im')) : zs x i ls st (K0, im, R0) = some (ls', st', (K0, im', R0)) := by
  unfold zsB at h
  split at h
  · cases h
  · rename_i ha
    split at h
    · rename_i ls1 st1 h1 hq
      simp only [Option.some.injEq, Prod.mk.injEq] at h
      obtain ⟨rfl, rfl, rfl⟩ := h
      rw [hq]
      unfold zs at hq
      (repeat' split at hq) <;> first
        | (cases hq; done)
        | (simp only [Option.some.injEq, Prod.mk.injEq] at hq; obtain ⟨rfl, rfl, rfl⟩ := hq; first | (exact absurd rfl ha) | rfl)
    · cases h
def zy : Nat → Nat → zE → Nat → List Instr → List zV → List zV → zM → Option (Option zV × zM)
  | 0, _, _, _, _, _, _, _ => none
  | _ + 1, _, _, _, [], _, _, _ => none
  | n + 1, d, ext, m, i :: is, ls, st, im => match i with
    | .goto L => zy n d ext m (zpg m L) ls st im
    | .goto_w L => zy n d ext m (zpg m L) ls st im
    | .ifCond c L => match st with
      | .inl a :: st => if zcb c a 0 = true then zy n d ext m (zpg m L) ls st im else zy n d ext m is ls st im
      | _ => none
    | .if_icmp c L => match st with
      | .inl b :: .inl a :: st => if zcb c a b = true then zy n d ext m (zpg m L) ls st im else zy n d ext m is ls st im
      | _ => none
    | .tableswitch df lo hi offs => match st with
      | .inl a :: st => if a < lo ∨ hi < a then zy n d ext m (zpg m df) ls st im else zy n d ext m (zpg m (offs.getD (a - lo).toNat (-1))) ls st im
      | _ => none
    | .ireturn => match st with
      | [.inl a] => if zrk m = 1 ∨ (zrk m = 2 ∧ (a = 0 ∨ a = 1)) then some (some (.inl a), im) else none
      | _ => none
    | .areturn => match st with
      | [.inr (some a)] => if zrk m = 3 then some (some (.inr (some a)), im) else none
      | _ => none
    | .return_ => match st with
      | [] => if zrk m = 0 then some (none, im) else none
      | _ => none
    | .invokedynamic k => match d with
      | 0 => none
      | d + 1 => if (zmi k).1 ≤ st.length ∧ (st.drop (zmi k).1).length ≤ 8 ∧ zrcv (zmi k).2.1 (zmi k).2.2.1 (st.take (zmi k).1).getLast? (K0, im, R0) = true then
          (match zy n d none k (zpg k 0) (zpad (st.take (zmi k).1).reverse (zmi k).2.2.2) [] im with
          | some (r, im') => zy n (d + 1) ext m is ls (zpu r (st.drop (zmi k).1)) im'
          | none => none)
        else none
    | i => match zsB ext i ls st im with
      | some (ls', st', im') => zy n d ext m is ls' st' im'
      | none => none
section ZY
variable {x : zE} {d m n : Nat} {is : List Instr} {ls st ls' st' : List zV} {im im' : zM} {Q Q' : Option zV → zM → Prop} {i : Instr} {k : Nat} {as : List zV}
theorem zy_other (hi : zctl i = false) : zy (n + 1) d x m (i :: is) ls st im = match zsB x i ls st im with
      | some (ls', st', im') => zy n d x m is ls' st' im'
      | none => none := by
  cases i <;> first | rfl | cases hi
/-- what zy computes, zx does -/
theorem zy_zx : ∀ (n : Nat) {d m : Nat} {x : zE} {is : List Instr} {ls st : List zV} {im im' : zM} {r : Option zV}, zy n d x m is ls st im = some (r, im') → zx n d x m is ls st (K0, im, R0) = some (r, (K0, im', R0))
  | 0, d, m, x, is, ls, st, im, im', r, hz => by simp [zy] at hz
  | n + 1, d, m, x, [], ls, st, im, im', r, hz => by simp [zy] at hz
  | n + 1, d, m, x, i :: is, ls, st, im, im', r, hz => by
    rcases zctl_or i with hi | ⟨L, rfl⟩ | ⟨L, rfl⟩ | ⟨cc, L, rfl⟩ | ⟨cc, L, rfl⟩ | ⟨df, lo, hi, offs, rfl⟩ | rfl | rfl | rfl | ⟨k, rfl⟩
    · rw [zy_other hi] at hz
      rw [zx_other hi]
      split at hz
      · rename_i ls1 st1 h1 hq
        rw [zsB_ok hq]
        exact zy_zx n hz
      · cases hz
    · simp only [zy] at hz
      simp only [zx]
      exact zy_zx n hz
    · simp only [zy] at hz
      simp only [zx]
      exact zy_zx n hz
    · simp only [zy] at hz
      simp only [zx]
      split at hz
      · split at hz
        · rename_i q
          simp only [q, if_true]
          exact zy_zx n hz
        · rename_i q
          simp only [q, if_false]
          exact zy_zx n hz
      · cases hz
    · simp only [zy] at hz
      simp only [zx]
      split at hz
      · split at hz
        · rename_i q
          simp only [q, if_true]
          exact zy_zx n hz
        · rename_i q
          simp only [q, if_false]
          exact zy_zx n hz
      · cases hz
    · simp only [zy] at hz
      simp only [zx]
      split at hz
      · split at hz
        · rename_i q
          simp only [q, if_true]
          exact zy_zx n hz
        · rename_i q
          simp only [q, if_false]
          exact zy_zx n hz
      · cases hz
    · simp only [zy] at hz
      simp only [zx]
      split at hz
      · split at hz
        · rename_i q
          simp only [Option.some.injEq, Prod.mk.injEq] at hz
          obtain ⟨rfl, rfl⟩ := hz
          simp only [q, if_true]
        · cases hz
      · cases hz
    · simp only [zy] at hz
      simp only [zx]
      split at hz
      · split at hz
        · rename_i q
          simp only [Option.some.injEq, Prod.mk.injEq] at hz
          obtain ⟨rfl, rfl⟩ := hz
          simp only [q, if_true]
        · cases hz
      · cases hz
    · simp only [zy] at hz
      simp only [zx]
      split at hz
      · split at hz
        · rename_i q
          simp only [Option.some.injEq, Prod.mk.injEq] at hz
          obtain ⟨rfl, rfl⟩ := hz
          simp only [q, if_true]
        · cases hz
      · cases hz
    · cases d with
      | zero => simp [zy] at hz
      | succ d =>
        simp only [zy] at hz
        simp only [zx]
        split at hz
        · rename_i q
          rw [if_pos q]
          split at hz
          · rename_i r1 h1 hq
            rw [zy_zx n hq]
            exact zy_zx n hz
          · cases hz
        · cases hz
theorem zy_mono : ∀ (n : Nat) {d m : Nat} {x : zE} {is : List Instr} {ls st : List zV} {im : zM} {q : Option zV × zM}, zy n d x m is ls st im = some q → zy (n + 1) d x m is ls st im = some q
  | 0, d, m, x, is, ls, st, im, r, hz => by simp [zy] at hz
  | n + 1, d, m, x, [], ls, st, im, r, hz => by simp [zy] at hz
  | n + 1, d, m, x, i :: is, ls, st, im, r, hz => by
    rcases zctl_or i with hi | ⟨L, rfl⟩ | ⟨L, rfl⟩ | ⟨cc, L, rfl⟩ | ⟨cc, L, rfl⟩ | ⟨df, lo, hi, offs, rfl⟩ | rfl | rfl | rfl | ⟨k, rfl⟩
    · rw [zy_other hi] at hz ⊢
      split at hz
      · exact zy_mono n hz
      · cases hz
    · simp only [zy] at hz
      rw [show zy (n + 1 + 1) d x m (.goto L :: is) ls st im = zy (n + 1) d x m (zpg m L) ls st im from rfl]
      exact zy_mono n hz
    · simp only [zy] at hz
      rw [show zy (n + 1 + 1) d x m (.goto_w L :: is) ls st im = zy (n + 1) d x m (zpg m L) ls st im from rfl]
      exact zy_mono n hz
    · simp only [zy] at hz
      split at hz
      · rename_i a st
        rw [show zy (n + 1 + 1) d x m (.ifCond cc L :: is) ls (.inl a :: st) im = if zcb cc a 0 = true then zy (n + 1) d x m (zpg m L) ls st im else zy (n + 1) d x m is ls st im from rfl]
        split at hz
        · rename_i q
          rw [if_pos q]
          exact zy_mono n hz
        · rename_i q
          rw [if_neg q]
          exact zy_mono n hz
      · cases hz
    · simp only [zy] at hz
      split at hz
      · rename_i b a st
        rw [show zy (n + 1 + 1) d x m (.if_icmp cc L :: is) ls (.inl b :: .inl a :: st) im = if zcb cc a b = true then zy (n + 1) d x m (zpg m L) ls st im else zy (n + 1) d x m is ls st im from rfl]
        split at hz
        · rename_i q
          rw [if_pos q]
          exact zy_mono n hz
        · rename_i q
          rw [if_neg q]
          exact zy_mono n hz
      · cases hz
    · simp only [zy] at hz
      split at hz
      · rename_i a st
        rw [show zy (n + 1 + 1) d x m (.tableswitch df lo hi offs :: is) ls (.inl a :: st) im = if a < lo ∨ hi < a then zy (n + 1) d x m (zpg m df) ls st im else zy (n + 1) d x m (zpg m (offs.getD (a - lo).toNat (-1))) ls st im from rfl]
        split at hz
        · rename_i q
          rw [if_pos q]
          exact zy_mono n hz
        · rename_i q
          rw [if_neg q]
          exact zy_mono n hz
      · cases hz
    · exact hz
    · exact hz
    · exact hz
    · cases d with
      | zero => simp [zy] at hz
      | succ d =>
        simp only [zy] at hz
        rw [show zy (n + 1 + 1) (d + 1) x m (.invokedynamic k :: is) ls st im = if (zmi k).1 ≤ st.length ∧ (st.drop (zmi k).1).length ≤ 8 ∧ zrcv (zmi k).2.1 (zmi k).2.2.1 (st.take (zmi k).1).getLast? (K0, im, R0) = true then
          (match zy (n + 1) d none k (zpg k 0) (zpad (st.take (zmi k).1).reverse (zmi k).2.2.2) [] im with
          | some (r, im') => zy (n + 1) (d + 1) x m is ls (zpu r (st.drop (zmi k).1)) im'
          | none => none)
        else none from rfl]
        split at hz
        · rename_i q
          rw [if_pos q]
          split at hz
          · rename_i r1 h1 hq
            rw [zy_mono n hq]
            exact zy_mono n hz
          · cases hz
        · cases hz
theorem zy_more {q : Option zV × zM} (h : zy n d x m is ls st im = some q) (k : Nat) : zy (n + k) d x m is ls st im = some q := by
  induction k with
  | zero => exact h
  | succ k ih => exact zy_mono _ ih
def wp (x : zE) (d m : Nat) (is : List Instr) (ls st : List zV) (im : zM) (Q : Option zV → zM → Prop) : Prop := ∃ (n : Nat) (r : Option zV) (im' : zM), zy n d x m is ls st im = some (r, im') ∧ Q r im'
def CallP (d k : Nat) (as : List zV) (im : zM) (Q : Option zV → zM → Prop) : Prop := wp none d k (zpg k 0) (zpad as (zmi k).2.2.2) [] im Q
theorem wp_mono (h : wp x d m is ls st im Q) (hQ : ∀ r i, Q r i → Q' r i) : wp x d m is ls st im Q' := by
  obtain ⟨n, r, i, h1, h2⟩ := h
  exact ⟨n, r, i, h1, hQ r i h2⟩
theorem CallP_mono (h : CallP d k as im Q) (hQ : ∀ r i, Q r i → Q' r i) : CallP d k as im Q' := wp_mono h hQ
theorem wp_det {r0 : Option zV} {i0 : zM} (h : wp x d m is ls st im (fun r i => r = r0 ∧ i = i0)) : wp x d m is ls st im Q ↔ Q r0 i0 := by
  obtain ⟨n, r, i, h1, rfl, rfl⟩ := h
  refine ⟨fun ⟨n2, r2, i2, h2, h3⟩ => ?_, fun h2 => ⟨n, r, i, h1, h2⟩⟩
  have e1 := zy_more h1 n2
  have e2 := zy_more h2 n
  rw [Nat.add_comm] at e2
  rw [e1] at e2
  cases e2
  exact h3
/-- a contract that says all: an answer, a memory -/
theorem CallP_eq {r0 : Option zV} {i0 : zM} (h : CallP d k as im (fun r i => r = r0 ∧ i = i0)) : CallP d k as im Q ↔ Q r0 i0 := wp_det h
theorem wp_zs (hi : zctl i = false) (h : zsB x i ls st im = some (ls', st', im')) : wp x d m (i :: is) ls st im Q ↔ wp x d m is ls' st' im' Q := by
  constructor
  · rintro ⟨n, r, i2, h1, h2⟩
    cases n with
    | zero => simp [zy] at h1
    | succ n =>
      rw [zy_other hi, h] at h1
      exact ⟨n, r, i2, h1, h2⟩
  · rintro ⟨n, r, i2, h1, h2⟩
    refine ⟨n + 1, r, i2, ?_, h2⟩
    rw [zy_other hi, h]
    exact h1
theorem wp_no (hi : zctl i = false) (h : zsB x i ls st im = none) : wp x d m (i :: is) ls st im Q ↔ False := by
  refine ⟨?_, False.elim⟩
  rintro ⟨n, r, i2, h1, h2⟩
  cases n with
  | zero => simp [zy] at h1
  | succ n =>
    rw [zy_other hi, h] at h1
    cases h1
theorem wp_cond {c : Prop} (hi : zctl i = false) (h1 : c → zsB x i ls st im = some (ls', st', im')) (h2 : ¬ c → zsB x i ls st im = none) : wp x d m (i :: is) ls st im Q ↔ c ∧ wp x d m is ls' st' im' Q := by
  by_cases hc : c
  · rw [wp_zs hi (h1 hc)]
    simp [hc]
  · rw [wp_no hi (h2 hc)]
    simp [hc]
/-- a value that must be a number, a reference -/
def zifI (v : zV) (f : Int → Prop) : Prop := match v with
  | .inl n => f n
  | _ => False
def zifR (v : zV) (f : Nat → Prop) : Prop := match v with
  | .inr (some o) => f o
  | _ => False
theorem zifI_inl {v : Int} {f : Int → Prop} : zifI (.inl v) f = f v := rfl
theorem zifR_some {o : Nat} {f : Nat → Prop} : zifR (.inr (some o)) f = f o := rfl
def zifO (v : Option Nat) (f : Nat → Prop) : Prop := match v with
  | some o => f o
  | none => False
theorem zifO_some {o : Nat} {f : Nat → Prop} : zifO (some o) f = f o := rfl
/-- what comes behind, without a binder: simp doesn't look into it before its value is known -/
def kI (x : zE) (d m : Nat) (is : List Instr) (ls st : List zV) (im : zM) (Q : Option zV → zM → Prop) (v : zV) : Prop := zifI v (fun v => wp x d m is ls (.inl v :: st) im Q)
def kR (x : zE) (d m : Nat) (is : List Instr) (ls st : List zV) (im : zM) (Q : Option zV → zM → Prop) (v : zV) : Prop := zifR v (fun v => wp x d m is ls (.inr (some v) :: st) im Q)
def kN (x : zE) (d m : Nat) (is : List Instr) (ls st : List zV) (im : zM) (Q : Option zV → zM → Prop) (k : Nat) (c : Int) (v : zV) : Prop := zifI v (fun v => (zI (v + c) ∧ k < ls.length) ∧ wp x d m is (zset ls k (.inl (v + c))) st im Q)
def kO (x : zE) (d m : Nat) (is : List Instr) (ls st : List zV) (im : zM) (Q : Option zV → zM → Prop) (v : Option Nat) : Prop := zifO v (fun p => wp x d m is ls (.inr (some p) :: st) im Q)
def KT (x : zE) (d m : Nat) (is : List Instr) (ls st : List zV) (Q : Option zV → zM → Prop) (r : Option zV) (im : zM) : Prop := wp x d m is ls (zpu r st) im Q
theorem kI_inl {v : Int} : kI x d m is ls st im Q (.inl v) ↔ wp x d m is ls (.inl v :: st) im Q := Iff.rfl
theorem kR_some {v : Nat} : kR x d m is ls st im Q (.inr (some v)) ↔ wp x d m is ls (.inr (some v) :: st) im Q := Iff.rfl
theorem kN_inl {c v : Int} : kN x d m is ls st im Q k c (.inl v) ↔ (zI (v + c) ∧ k < ls.length) ∧ wp x d m is (zset ls k (.inl (v + c))) st im Q := Iff.rfl
theorem kO_some {v : Nat} : kO x d m is ls st im Q (some v) ↔ wp x d m is ls (.inr (some v) :: st) im Q := Iff.rfl
theorem KT_none : KT x d m is ls st Q none im ↔ wp x d m is ls st im Q := Iff.rfl
theorem KT_some {v : zV} : KT x d m is ls st Q (some v) im ↔ wp x d m is ls (v :: st) im Q := Iff.rfl
theorem wp_iload : wp x d m (.iload k :: is) ls st im Q ↔ kI x d m is ls st im Q (zget ls k) := by
  unfold kI
  cases hq : zget ls k with
  | inl v => exact wp_zs rfl (by simp [zsB, zalc, zs, hq])
  | inr v => exact wp_no rfl (by cases v <;> simp [zsB, zalc, zs, hq])
theorem wp_aload : wp x d m (.aload k :: is) ls st im Q ↔ kR x d m is ls st im Q (zget ls k) := by
  unfold kR
  cases hq : zget ls k with
  | inl v => exact wp_no rfl (by simp [zsB, zalc, zs, hq])
  | inr v =>
    cases v with
    | none => exact wp_no rfl (by simp [zsB, zalc, zs, hq])
    | some v => exact wp_zs rfl (by simp [zsB, zalc, zs, hq])
theorem wp_istore {v : Int} : wp x d m (.istore k :: is) ls (.inl v :: st) im Q ↔ k < ls.length ∧ wp x d m is (zset ls k (.inl v)) st im Q := wp_cond rfl (fun h => by simp [zsB, zalc, zs, h]) (fun h => by simp [zsB, zalc, zs, h])
theorem wp_astore {v : Nat} : wp x d m (.astore k :: is) ls (.inr (some v) :: st) im Q ↔ k < ls.length ∧ wp x d m is (zset ls k (.inr (some v))) st im Q := wp_cond rfl (fun h => by simp [zsB, zalc, zs, h]) (fun h => by simp [zsB, zalc, zs, h])
theorem wp_iinc {c : Int} : wp x d m (.iinc k c :: is) ls st im Q ↔ kN x d m is ls st im Q k c (zget ls k) := by
  unfold kN
  cases hq : zget ls k with
  | inl v => exact wp_cond rfl (fun h => by simp only [zsB, zalc, zs, hq]; rw [if_pos h]; simp) (fun h => by simp only [zsB, zalc, zs, hq]; rw [if_neg h]; simp)
  | inr v => exact wp_no rfl (by cases v <;> simp [zsB, zalc, zs, hq])
theorem wp_iconst {c : Int} : wp x d m (.iconst c :: is) ls st im Q ↔ zI c ∧ wp x d m is ls (.inl c :: st) im Q := wp_cond rfl (fun h => by simp only [zsB, zalc, zs]; rw [if_pos h]; simp) (fun h => by simp only [zsB, zalc, zs]; rw [if_neg h]; simp)
theorem wp_dup {v : zV} : wp x d m (.dup :: is) ls (v :: st) im Q ↔ wp x d m is ls (v :: v :: st) im Q := wp_zs rfl (by simp [zsB, zalc, zs])
theorem wp_dup2 {v w : zV} : wp x d m (.dup2 :: is) ls (v :: w :: st) im Q ↔ wp x d m is ls (v :: w :: v :: w :: st) im Q := wp_zs rfl (by simp [zsB, zalc, zs])
theorem wp_pop {v : zV} : wp x d m (.pop :: is) ls (v :: st) im Q ↔ wp x d m is ls st im Q := wp_zs rfl (by simp [zsB, zalc, zs])
theorem wp_iadd {a b : Int} : wp x d m (.iadd :: is) ls (.inl b :: .inl a :: st) im Q ↔ (zI (a + b)) ∧ wp x d m is ls (.inl (a + b) :: st) im Q := wp_cond rfl (fun h => by simp only [zsB, zalc, zs]; rw [if_pos h]; simp) (fun h => by simp only [zsB, zalc, zs]; rw [if_neg h]; simp)
theorem wp_isub {a b : Int} : wp x d m (.isub :: is) ls (.inl b :: .inl a :: st) im Q ↔ (zI (a - b)) ∧ wp x d m is ls (.inl (a - b) :: st) im Q := wp_cond rfl (fun h => by simp only [zsB, zalc, zs]; rw [if_pos h]; simp) (fun h => by simp only [zsB, zalc, zs]; rw [if_neg h]; simp)
theorem wp_imul {a b : Int} : wp x d m (.imul :: is) ls (.inl b :: .inl a :: st) im Q ↔ (zI (a * b)) ∧ wp x d m is ls (.inl (a * b) :: st) im Q := wp_cond rfl (fun h => by simp only [zsB, zalc, zs]; rw [if_pos h]; simp) (fun h => by simp only [zsB, zalc, zs]; rw [if_neg h]; simp)
theorem wp_idiv {a b : Int} : wp x d m (.idiv :: is) ls (.inl b :: .inl a :: st) im Q ↔ (b ≠ 0 ∧ zI (a.tdiv b)) ∧ wp x d m is ls (.inl (a.tdiv b) :: st) im Q := wp_cond rfl (fun h => by simp only [zsB, zalc, zs]; rw [if_pos h]; simp) (fun h => by simp only [zsB, zalc, zs]; rw [if_neg h]; simp)
theorem wp_irem {a b : Int} : wp x d m (.irem :: is) ls (.inl b :: .inl a :: st) im Q ↔ (b ≠ 0 ∧ zI (a.tdiv b) ∧ zI (a.tmod b)) ∧ wp x d m is ls (.inl (a.tmod b) :: st) im Q := wp_cond rfl (fun h => by simp only [zsB, zalc, zs]; rw [if_pos h]; simp) (fun h => by simp only [zsB, zalc, zs]; rw [if_neg h]; simp)
theorem wp_ineg {a : Int} : wp x d m (.ineg :: is) ls (.inl a :: st) im Q ↔ zI (-a) ∧ wp x d m is ls (.inl (-a) :: st) im Q := wp_cond rfl (fun h => by simp only [zsB, zalc, zs]; rw [if_pos h]; simp) (fun h => by simp only [zsB, zalc, zs]; rw [if_neg h]; simp)
theorem wp_iand {a b : Int} : wp x d m (.iand :: is) ls (.inl b :: .inl a :: st) im Q ↔ wp x d m is ls (.inl (zand a b) :: st) im Q := wp_zs rfl (by simp [zsB, zalc, zs])
theorem wp_ior {a b : Int} : wp x d m (.ior :: is) ls (.inl b :: .inl a :: st) im Q ↔ wp x d m is ls (.inl (zor a b) :: st) im Q := wp_zs rfl (by simp [zsB, zalc, zs])
theorem wp_ixor {a b : Int} : wp x d m (.ixor :: is) ls (.inl b :: .inl a :: st) im Q ↔ wp x d m is ls (.inl (zxor a b) :: st) im Q := wp_zs rfl (by simp [zsB, zalc, zs])
theorem wp_ishl {a b : Int} : wp x d m (.ishl :: is) ls (.inl b :: .inl a :: st) im Q ↔ wp x d m is ls (.inl (zshl a b) :: st) im Q := wp_zs rfl (by simp [zsB, zalc, zs])
theorem wp_ishr {a b : Int} : wp x d m (.ishr :: is) ls (.inl b :: .inl a :: st) im Q ↔ wp x d m is ls (.inl (zshr a b) :: st) im Q := wp_zs rfl (by simp [zsB, zalc, zs])
theorem wp_getI {ci o : Nat} : wp x d m (.invokeinterface ci k :: is) ls (.inr (some o) :: st) im Q ↔ K0[o]? = some (ci + 3, 0) ∧ wp x d m is ls (.inl (im o k) :: st) im Q := wp_cond rfl (fun h => by simp only [zsB, zalc, zs]; rw [if_pos h]; simp) (fun h => by simp only [zsB, zalc, zs]; rw [if_neg h]; simp)
theorem wp_putI {ci o : Nat} {v : Int} : wp x d m (.multianewarray ci k :: is) ls (.inl v :: .inr (some o) :: st) im Q ↔ K0[o]? = some (ci + 3, 0) ∧ wp x d m is ls st (zu im o k v) Q := wp_cond rfl (fun h => by simp only [zsB, zalc, zs]; rw [if_pos h]; simp) (fun h => by simp only [zsB, zalc, zs]; rw [if_neg h]; simp)
theorem wp_getR {f o : Nat} : wp x d m (.getstatic f :: is) ls (.inr (some o) :: st) im Q ↔ K0[o]? = some (f / 64 + 3, 0) ∧ kO x d m is ls st im Q (R0 o (f % 64 : Nat)) := by
  unfold kO
  by_cases hc : K0[o]? = some (f / 64 + 3, 0)
  · cases hq : R0 o (f % 64 : Nat) with
    | none =>
      rw [wp_no rfl (by simp only [zsB, zalc, zs]; rw [if_pos hc, hq]; simp)]
      exact ⟨False.elim, fun h => h.2⟩
    | some p =>
      rw [wp_zs rfl (show _ = some (ls, .inr (some p) :: st, im) by simp only [zsB, zalc, zs]; rw [if_pos hc, hq]; simp)]
      exact ⟨fun h => ⟨hc, h⟩, fun h => h.2⟩
  · rw [wp_no rfl (by simp only [zsB, zalc, zs]; rw [if_neg hc]; simp)]
    exact ⟨False.elim, fun h => hc h.1⟩
theorem wp_iaload {o n : Nat} {v : Int} (hk : K0[o]? = some (0, n)) : wp x d m (.iaload :: is) ls (.inl v :: .inr (some o) :: st) im Q ↔ (0 ≤ v ∧ v < n) ∧ wp x d m is ls (.inl (im o v) :: st) im Q := wp_cond rfl (fun h => by simp only [zsB, zalc, zs, hk]; rw [if_pos h]; simp) (fun h => by simp only [zsB, zalc, zs, hk]; rw [if_neg h]; simp)
theorem wp_ialoadS {L : Nat} {xs : Int → Int} {v : Int} : wp (some (L, xs)) d m (.iaload :: is) ls (.inl v :: .inr (some 1000000) :: st) im Q ↔ (0 ≤ v ∧ v < L) ∧ wp (some (L, xs)) d m is ls (.inl (xs v) :: st) im Q := by
  have hk : K0[1000000]? = none := by decide
  exact wp_cond rfl (fun h => by simp [zsB, zalc, zs, hk, h]) (fun h => by simp [zsB, zalc, zs, hk, h])
theorem wp_iastore {o n : Nat} {v w : Int} (hk : K0[o]? = some (0, n)) : wp x d m (.iastore :: is) ls (.inl w :: .inl v :: .inr (some o) :: st) im Q ↔ (0 ≤ v ∧ v < n) ∧ wp x d m is ls st (zu im o v w) Q := wp_cond rfl (fun h => by simp only [zsB, zalc, zs, hk]; rw [if_pos h]; simp) (fun h => by simp only [zsB, zalc, zs, hk]; rw [if_neg h]; simp)
theorem wp_baload {o n : Nat} {v : Int} (hk : K0[o]? = some (1, n)) : wp x d m (.baload :: is) ls (.inl v :: .inr (some o) :: st) im Q ↔ (0 ≤ v ∧ v < n) ∧ wp x d m is ls (.inl (im o v) :: st) im Q := wp_cond rfl (fun h => by simp only [zsB, zalc, zs, hk]; rw [if_pos h]; simp) (fun h => by simp only [zsB, zalc, zs, hk]; rw [if_neg h]; simp)
theorem wp_bastore {o n : Nat} {v w : Int} (hk : K0[o]? = some (1, n)) : wp x d m (.bastore :: is) ls (.inl w :: .inl v :: .inr (some o) :: st) im Q ↔ (0 ≤ v ∧ v < n ∧ (w = 0 ∨ w = 1)) ∧ wp x d m is ls st (zu im o v w) Q := wp_cond rfl (fun h => by simp only [zsB, zalc, zs, hk]; rw [if_pos h]; simp) (fun h => by simp only [zsB, zalc, zs, hk]; rw [if_neg h]; simp)
theorem wp_aaload {o n : Nat} {v : Int} (hk : K0[o]? = some (2, n)) : wp x d m (.aaload :: is) ls (.inl v :: .inr (some o) :: st) im Q ↔ (0 ≤ v ∧ v < n) ∧ kO x d m is ls st im Q (R0 o v) := by
  unfold kO
  by_cases hc : 0 ≤ v ∧ v < n
  · cases hq : R0 o v with
    | none =>
      rw [wp_no rfl (by simp only [zsB, zalc, zs, hk]; rw [if_pos hc, hq]; simp)]
      exact ⟨False.elim, fun h => h.2⟩
    | some p =>
      rw [wp_zs rfl (show _ = some (ls, .inr (some p) :: st, im) by simp only [zsB, zalc, zs, hk]; rw [if_pos hc, hq]; simp)]
      exact ⟨fun h => ⟨hc, h⟩, fun h => h.2⟩
  · rw [wp_no rfl (by simp only [zsB, zalc, zs, hk]; rw [if_neg hc]; simp)]
    exact ⟨False.elim, fun h => hc h.1⟩
theorem wp_alen {o n : Nat} (hk : K0[o]? = some (0, n)) : wp x d m (.arraylength :: is) ls (.inr (some o) :: st) im Q ↔ zI n ∧ wp x d m is ls (.inl n :: st) im Q := wp_cond rfl (fun h => by simp only [zsB, zalc, zs, hk]; rw [if_pos h]; simp) (fun h => by simp only [zsB, zalc, zs, hk]; rw [if_neg h]; simp)
theorem wp_alenS {L : Nat} {xs : Int → Int} : wp (some (L, xs)) d m (.arraylength :: is) ls (.inr (some 1000000) :: st) im Q ↔ zI L ∧ wp (some (L, xs)) d m is ls (.inl L :: st) im Q := by
  have hk : K0[1000000]? = none := by decide
  exact wp_cond rfl (fun h => by simp only [zsB, zalc, zs, hk, true_and]; rw [if_pos h]; simp) (fun h => by simp only [zsB, zalc, zs, hk, true_and]; rw [if_neg h]; simp)
theorem wp_max {a b : Int} : wp x d m (.lmul :: is) ls (.inl b :: .inl a :: st) im Q ↔ st.length ≤ 8 ∧ wp x d m is ls (.inl (max a b) :: st) im Q := wp_cond rfl (fun h => by simp only [zsB, zalc, zs]; rw [if_pos h]; simp) (fun h => by simp only [zsB, zalc, zs]; rw [if_neg h]; simp)
theorem wp_min {a b : Int} : wp x d m (.ldiv :: is) ls (.inl b :: .inl a :: st) im Q ↔ st.length ≤ 8 ∧ wp x d m is ls (.inl (min a b) :: st) im Q := wp_cond rfl (fun h => by simp only [zsB, zalc, zs]; rw [if_pos h]; simp) (fun h => by simp only [zsB, zalc, zs]; rw [if_neg h]; simp)
theorem wp_copy {o q np nq : Nat} {sp dp n : Int} (hp : K0[o]? = some (0, np)) (hq : K0[q]? = some (0, nq)) : wp x d m (.lshl :: is) ls (.inl n :: .inl dp :: .inr (some q) :: .inl sp :: .inr (some o) :: st) im Q ↔ (0 ≤ sp ∧ 0 ≤ dp ∧ 0 ≤ n ∧ sp + n ≤ np ∧ dp + n ≤ nq ∧ st.length ≤ 8) ∧ wp x d m is ls st (zcp im o sp q dp n) Q := wp_cond rfl (fun h => by simp only [zsB, zalc, zs, hp, hq]; rw [if_pos h]; simp) (fun h => by simp only [zsB, zalc, zs, hp, hq]; rw [if_neg h]; simp)
theorem wp_goto {L : Int} : wp x d m (.goto L :: is) ls st im Q ↔ wp x d m (zpg m L) ls st im Q := by
  constructor
  · rintro ⟨n, r, i2, h1, h2⟩
    cases n with
    | zero => simp [zy] at h1
    | succ n => exact ⟨n, r, i2, h1, h2⟩
  · rintro ⟨n, r, i2, h1, h2⟩
    exact ⟨n + 1, r, i2, h1, h2⟩
theorem wp_goto_w {L : Int} : wp x d m (.goto_w L :: is) ls st im Q ↔ wp x d m (zpg m L) ls st im Q := by
  constructor
  · rintro ⟨n, r, i2, h1, h2⟩
    cases n with
    | zero => simp [zy] at h1
    | succ n => exact ⟨n, r, i2, h1, h2⟩
  · rintro ⟨n, r, i2, h1, h2⟩
    exact ⟨n + 1, r, i2, h1, h2⟩
theorem wp_same {is2 : List Instr} {ls2 st2 : List zV} {im2 : zM} (e : ∀ n, zy (n + 1) d x m is ls st im = zy n d x m is2 ls2 st2 im2) : wp x d m is ls st im Q ↔ wp x d m is2 ls2 st2 im2 Q := by
  constructor
  · rintro ⟨n, r, i2, h1, h2⟩
    cases n with
    | zero => simp [zy] at h1
    | succ n => exact ⟨n, r, i2, by rw [← e n]; exact h1, h2⟩
  · rintro ⟨n, r, i2, h1, h2⟩
    exact ⟨n + 1, r, i2, by rw [e n]; exact h1, h2⟩
theorem wp_br {c : Prop} {a b e : Prop} (h1 : c → (a ↔ b)) (h2 : ¬ c → (a ↔ e)) : a ↔ (c → b) ∧ (¬ c → e) := by
  by_cases hc : c
  · exact ⟨fun h => ⟨fun _ => (h1 hc).mp h, fun q => absurd hc q⟩, fun h => (h1 hc).mpr (h.1 hc)⟩
  · exact ⟨fun h => ⟨fun q => absurd q hc, fun _ => (h2 hc).mp h⟩, fun h => (h2 hc).mpr (h.2 hc)⟩
theorem wp_if {cc : Jvm.ClassFile.Cond} {L a : Int} : wp x d m (.ifCond cc L :: is) ls (.inl a :: st) im Q ↔ (zcb cc a 0 = true → wp x d m (zpg m L) ls st im Q) ∧ (¬ zcb cc a 0 = true → wp x d m is ls st im Q) :=
  wp_br (fun hc => wp_same (fun n => if_pos hc)) (fun hc => wp_same (fun n => if_neg hc))
theorem wp_icmp {cc : Jvm.ClassFile.Cond} {L a b : Int} : wp x d m (.if_icmp cc L :: is) ls (.inl b :: .inl a :: st) im Q ↔ (zcb cc a b = true → wp x d m (zpg m L) ls st im Q) ∧ (¬ zcb cc a b = true → wp x d m is ls st im Q) :=
  wp_br (fun hc => wp_same (fun n => if_pos hc)) (fun hc => wp_same (fun n => if_neg hc))
theorem wp_if_eq {L a : Int} : wp x d m (.ifCond .eq L :: is) ls (.inl a :: st) im Q ↔ (a = 0 → wp x d m (zpg m L) ls st im Q) ∧ (¬ a = 0 → wp x d m is ls st im Q) := by
  rw [wp_if]
  simp only [zcb, decide_eq_true_eq]
theorem wp_icmp_eq {L a b : Int} : wp x d m (.if_icmp .eq L :: is) ls (.inl b :: .inl a :: st) im Q ↔ (a = b → wp x d m (zpg m L) ls st im Q) ∧ (¬ a = b → wp x d m is ls st im Q) := by
  rw [wp_icmp]
  simp only [zcb, decide_eq_true_eq]
theorem wp_if_lt {L a : Int} : wp x d m (.ifCond .lt L :: is) ls (.inl a :: st) im Q ↔ (a < 0 → wp x d m (zpg m L) ls st im Q) ∧ (¬ a < 0 → wp x d m is ls st im Q) := by
  rw [wp_if]
  simp only [zcb, decide_eq_true_eq]
theorem wp_icmp_lt {L a b : Int} : wp x d m (.if_icmp .lt L :: is) ls (.inl b :: .inl a :: st) im Q ↔ (a < b → wp x d m (zpg m L) ls st im Q) ∧ (¬ a < b → wp x d m is ls st im Q) := by
  rw [wp_icmp]
  simp only [zcb, decide_eq_true_eq]
theorem wp_if_ge {L a : Int} : wp x d m (.ifCond .ge L :: is) ls (.inl a :: st) im Q ↔ (0 ≤ a → wp x d m (zpg m L) ls st im Q) ∧ (¬ 0 ≤ a → wp x d m is ls st im Q) := by
  rw [wp_if]
  simp only [zcb, decide_eq_true_eq]
theorem wp_icmp_ge {L a b : Int} : wp x d m (.if_icmp .ge L :: is) ls (.inl b :: .inl a :: st) im Q ↔ (b ≤ a → wp x d m (zpg m L) ls st im Q) ∧ (¬ b ≤ a → wp x d m is ls st im Q) := by
  rw [wp_icmp]
  simp only [zcb, decide_eq_true_eq]
theorem wp_if_gt {L a : Int} : wp x d m (.ifCond .gt L :: is) ls (.inl a :: st) im Q ↔ (0 < a → wp x d m (zpg m L) ls st im Q) ∧ (¬ 0 < a → wp x d m is ls st im Q) := by
  rw [wp_if]
  simp only [zcb, decide_eq_true_eq]
theorem wp_icmp_gt {L a b : Int} : wp x d m (.if_icmp .gt L :: is) ls (.inl b :: .inl a :: st) im Q ↔ (b < a → wp x d m (zpg m L) ls st im Q) ∧ (¬ b < a → wp x d m is ls st im Q) := by
  rw [wp_icmp]
  simp only [zcb, decide_eq_true_eq]
theorem wp_if_le {L a : Int} : wp x d m (.ifCond .le L :: is) ls (.inl a :: st) im Q ↔ (a ≤ 0 → wp x d m (zpg m L) ls st im Q) ∧ (¬ a ≤ 0 → wp x d m is ls st im Q) := by
  rw [wp_if]
  simp only [zcb, decide_eq_true_eq]
theorem wp_icmp_le {L a b : Int} : wp x d m (.if_icmp .le L :: is) ls (.inl b :: .inl a :: st) im Q ↔ (a ≤ b → wp x d m (zpg m L) ls st im Q) ∧ (¬ a ≤ b → wp x d m is ls st im Q) := by
  rw [wp_icmp]
  simp only [zcb, decide_eq_true_eq]
theorem wp_if_ne {L a : Int} : wp x d m (.ifCond .ne L :: is) ls (.inl a :: st) im Q ↔ (a ≠ 0 → wp x d m (zpg m L) ls st im Q) ∧ (a = 0 → wp x d m is ls st im Q) := by
  rw [wp_if]
  simp only [zcb, decide_eq_true_eq, ne_eq, Decidable.not_not]
theorem wp_icmp_ne {L a b : Int} : wp x d m (.if_icmp .ne L :: is) ls (.inl b :: .inl a :: st) im Q ↔ (a ≠ b → wp x d m (zpg m L) ls st im Q) ∧ (a = b → wp x d m is ls st im Q) := by
  rw [wp_icmp]
  simp only [zcb, decide_eq_true_eq, ne_eq, Decidable.not_not]
theorem wq_of {c A B E : Prop} [Decidable c] (h : A ↔ (c → B) ∧ (¬ c → E)) : A ↔ if c then B else E := by
  rw [h]
  split <;> simp_all
theorem wq_if_eq {L a : Int} : wp x d m (.ifCond .eq L :: is) ls (.inl a :: st) im Q ↔ if a = 0 then wp x d m (zpg m L) ls st im Q else wp x d m is ls st im Q := wq_of wp_if_eq
theorem wq_icmp_eq {L a b : Int} : wp x d m (.if_icmp .eq L :: is) ls (.inl b :: .inl a :: st) im Q ↔ if a = b then wp x d m (zpg m L) ls st im Q else wp x d m is ls st im Q := wq_of wp_icmp_eq
theorem wq_if_lt {L a : Int} : wp x d m (.ifCond .lt L :: is) ls (.inl a :: st) im Q ↔ if a < 0 then wp x d m (zpg m L) ls st im Q else wp x d m is ls st im Q := wq_of wp_if_lt
theorem wq_icmp_lt {L a b : Int} : wp x d m (.if_icmp .lt L :: is) ls (.inl b :: .inl a :: st) im Q ↔ if a < b then wp x d m (zpg m L) ls st im Q else wp x d m is ls st im Q := wq_of wp_icmp_lt
theorem wq_if_ge {L a : Int} : wp x d m (.ifCond .ge L :: is) ls (.inl a :: st) im Q ↔ if 0 ≤ a then wp x d m (zpg m L) ls st im Q else wp x d m is ls st im Q := wq_of wp_if_ge
theorem wq_icmp_ge {L a b : Int} : wp x d m (.if_icmp .ge L :: is) ls (.inl b :: .inl a :: st) im Q ↔ if b ≤ a then wp x d m (zpg m L) ls st im Q else wp x d m is ls st im Q := wq_of wp_icmp_ge
theorem wq_if_gt {L a : Int} : wp x d m (.ifCond .gt L :: is) ls (.inl a :: st) im Q ↔ if 0 < a then wp x d m (zpg m L) ls st im Q else wp x d m is ls st im Q := wq_of wp_if_gt
theorem wq_icmp_gt {L a b : Int} : wp x d m (.if_icmp .gt L :: is) ls (.inl b :: .inl a :: st) im Q ↔ if b < a then wp x d m (zpg m L) ls st im Q else wp x d m is ls st im Q := wq_of wp_icmp_gt
theorem wq_if_le {L a : Int} : wp x d m (.ifCond .le L :: is) ls (.inl a :: st) im Q ↔ if a ≤ 0 then wp x d m (zpg m L) ls st im Q else wp x d m is ls st im Q := wq_of wp_if_le
theorem wq_icmp_le {L a b : Int} : wp x d m (.if_icmp .le L :: is) ls (.inl b :: .inl a :: st) im Q ↔ if a ≤ b then wp x d m (zpg m L) ls st im Q else wp x d m is ls st im Q := wq_of wp_icmp_le
theorem wq_if_ne {L a : Int} : wp x d m (.ifCond .ne L :: is) ls (.inl a :: st) im Q ↔ if a = 0 then wp x d m is ls st im Q else wp x d m (zpg m L) ls st im Q := wq_of (by rw [wp_if_ne]; exact And.comm)
theorem wq_icmp_ne {L a b : Int} : wp x d m (.if_icmp .ne L :: is) ls (.inl b :: .inl a :: st) im Q ↔ if a = b then wp x d m is ls st im Q else wp x d m (zpg m L) ls st im Q := wq_of (by rw [wp_icmp_ne]; exact And.comm)
theorem wp_switch {df lo hi a : Int} {offs : Array Int} : wp x d m (.tableswitch df lo hi offs :: is) ls (.inl a :: st) im Q ↔ ((a < lo ∨ hi < a) → wp x d m (zpg m df) ls st im Q) ∧ (¬ (a < lo ∨ hi < a) → wp x d m (zpg m (offs.getD (a - lo).toNat (-1))) ls st im Q) :=
  wp_br (fun hc => wp_same (fun n => if_pos hc)) (fun hc => wp_same (fun n => if_neg hc))
theorem wp_end {r : Option zV} (h : ∀ n, zy (n + 1) d x m is ls st im = some (r, im)) : wp x d m is ls st im Q ↔ Q r im := by
  constructor
  · rintro ⟨n, r2, i2, h1, h2⟩
    cases n with
    | zero => simp [zy] at h1
    | succ n =>
      rw [h] at h1
      cases h1
      exact h2
  · intro h2
    exact ⟨1, r, im, h 0, h2⟩
theorem wp_ireturn {a : Int} (hk : zrk m = 1) : wp x d m (.ireturn :: is) ls [.inl a] im Q ↔ Q (some (.inl a)) im := wp_end (fun n => if_pos (Or.inl hk))
theorem wp_zreturn {a : Int} (hk : zrk m = 2) : wp x d m (.ireturn :: is) ls [.inl a] im Q ↔ (a = 0 ∨ a = 1) ∧ Q (some (.inl a)) im := by
  by_cases hc : a = 0 ∨ a = 1
  · have e : ∀ n, zy (n + 1) d x m (.ireturn :: is) ls [.inl a] im = some (some (.inl a), im) := fun n => if_pos (Or.inr ⟨hk, hc⟩)
    rw [wp_end e]
    simp only [hc, true_and]
  · have e : ∀ n, zy (n + 1) d x m (.ireturn :: is) ls [.inl a] im = none := fun n => if_neg (by
      rw [hk]
      rintro (h | ⟨-, h⟩)
      · cases h
      · exact hc h)
    simp only [hc, false_and, iff_false]
    rintro ⟨n, r2, i2, h1, h2⟩
    cases n with
    | zero => simp [zy] at h1
    | succ n =>
      rw [e] at h1
      cases h1
theorem wp_areturn {a : Nat} (hk : zrk m = 3) : wp x d m (.areturn :: is) ls [.inr (some a)] im Q ↔ Q (some (.inr (some a))) im := wp_end (fun n => if_pos hk)
theorem wp_return (hk : zrk m = 0) : wp x d m (.return_ :: is) ls [] im Q ↔ Q none im := wp_end (fun n => if_pos hk)
theorem wp_call : wp x (d + 1) m (.invokedynamic k :: is) ls st im Q ↔ ((zmi k).1 ≤ st.length ∧ (st.drop (zmi k).1).length ≤ 8 ∧ zrcv (zmi k).2.1 (zmi k).2.2.1 (st.take (zmi k).1).getLast? (K0, im, R0) = true) ∧ CallP d k (st.take (zmi k).1).reverse im (fun r im' => wp x (d + 1) m is ls (zpu r (st.drop (zmi k).1)) im' Q) := by
  constructor
  · rintro ⟨n, r, i2, h1, h2⟩
    cases n with
    | zero => simp [zy] at h1
    | succ n =>
      simp only [zy] at h1
      split at h1
      · rename_i q
        split at h1
        · rename_i r1 i1 hq
          exact ⟨q, n, r1, i1, hq, n, r, i2, h1, h2⟩
        · cases h1
      · cases h1
  · rintro ⟨q, n, r1, i1, hq, n2, r, i2, h1, h2⟩
    refine ⟨n + n2 + 1, r, i2, ?_, h2⟩
    have e1 := zy_more hq n2
    have e2 := zy_more h1 n
    rw [Nat.add_comm] at e2
    simp only [zy]
    rw [if_pos q, e1]
    exact e2
end ZY
