/-! THE SOUNDNESS: what zx computes, the real machine does: by induction on the fuel -/
section ZA
variable {p : Program} {l : Launch} {e : Env} {R : Room} {s : State} {mth : MethodId} {args : Array Value} {below : List Frame} {meth : Method} {c : Code} {Q : State → Prop} {D : va_G} {ca : zC3} {A : Nat → Prop} {base b n0 z0 m pc : Nat} {ext : zE} {ls st ls' st' : List zV} {h h' : zH}
theorem zcv_goto {own n : Nat} {ini : Bool} {raw : Instr} {L : Int} (q : zcv own ini pc raw = some (.goto L, n)) : ∃ o, raw = .goto o ∧ 0 ≤ (pc : Int) + o ∧ L = pc + o ∧ n = 3 := by
  cases raw <;> simp only [zcv] at q <;> (repeat' split at q) <;> simp_all
theorem zcv_goto_w {own n : Nat} {ini : Bool} {raw : Instr} {L : Int} (q : zcv own ini pc raw = some (.goto_w L, n)) : False := by
  cases raw <;> simp only [zcv] at q <;> (repeat' split at q) <;> simp_all
theorem zcv_if {own n : Nat} {ini : Bool} {raw : Instr} {cc : Jvm.ClassFile.Cond} {L : Int} (q : zcv own ini pc raw = some (.ifCond cc L, n)) : ∃ o, raw = .ifCond cc o ∧ 0 ≤ (pc : Int) + o ∧ L = pc + o ∧ n = 3 := by
  cases raw <;> simp only [zcv] at q <;> (repeat' split at q) <;> simp_all
theorem zcv_icmp {own n : Nat} {ini : Bool} {raw : Instr} {cc : Jvm.ClassFile.Cond} {L : Int} (q : zcv own ini pc raw = some (.if_icmp cc L, n)) : ∃ o, raw = .if_icmp cc o ∧ 0 ≤ (pc : Int) + o ∧ L = pc + o ∧ n = 3 := by
  cases raw <;> simp only [zcv] at q <;> (repeat' split at q) <;> simp_all
theorem zcv_ireturn {own n : Nat} {ini : Bool} {raw : Instr} (q : zcv own ini pc raw = some (.ireturn, n)) : raw = .ireturn ∧ n = 1 := by
  cases raw <;> simp only [zcv] at q <;> (repeat' split at q) <;> simp_all
theorem zcv_areturn {own n : Nat} {ini : Bool} {raw : Instr} (q : zcv own ini pc raw = some (.areturn, n)) : raw = .areturn ∧ n = 1 := by
  cases raw <;> simp only [zcv] at q <;> (repeat' split at q) <;> simp_all
theorem zcv_return {own n : Nat} {ini : Bool} {raw : Instr} (q : zcv own ini pc raw = some (.return_, n)) : raw = .return_ ∧ n = 1 := by
  cases raw <;> simp only [zcv] at q <;> (repeat' split at q) <;> simp_all
theorem zcv_switch {own n : Nat} {ini : Bool} {raw : Instr} {df lo hi : Int} {offs : Array Int} (q : zcv own ini pc raw = some (.tableswitch df lo hi offs, n)) : ∃ d' offs', raw = .tableswitch d' lo hi offs' ∧ 0 ≤ (pc : Int) + d' ∧ (∀ o ∈ offs'.toList, 0 ≤ (pc : Int) + o) ∧ (offs'.size : Int) = hi - lo + 1 ∧ df = pc + d' ∧ offs = offs'.map (fun o => (pc : Int) + o) := by
  cases raw with
  | tableswitch a1 a2 a3 a4 =>
    simp only [zcv] at q
    split at q
    · rename_i h3
      simp only [Option.some.injEq, Prod.mk.injEq, Instr.tableswitch.injEq] at q
      obtain ⟨⟨rfl, rfl, rfl, rfl⟩, -⟩ := q
      exact ⟨a1, a4, rfl, h3.1, h3.2.1, h3.2.2, rfl, rfl⟩
    · cases q
  | _ =>
    exfalso
    simp only [zcv] at q
    (repeat' split at q) <;> simp_all
theorem zcv_call {own n k : Nat} {ini : Bool} {raw : Instr} (q : zcv own ini pc raw = some (.invokedynamic k, n)) : n = 3 ∧ ((∃ x, raw = .invokevirtual x ∧ zlk.lookup (own, x) = some k ∧ zkd k = 1) ∨ (∃ x, raw = .invokestatic x ∧ (zlk.lookup (own, x) = some k ∨ zlkN.lookup (own, x) = some k) ∧ zkd k = 0) ∨
    ∃ x, raw = .invokespecial x ∧ (zlk.lookup (own, x) = some k ∨ zlkN.lookup (own, x) = some k) ∧ zkd k = 2) := by
  cases raw with
  | invokevirtual x =>
    simp only [zcv] at q
    (repeat' split at q) <;> simp_all
  | invokestatic x =>
    simp only [zcv] at q
    (repeat' split at q) <;> simp_all
  | invokespecial x =>
    simp only [zcv] at q
    (repeat' split at q) <;> simp_all
  | _ =>
    exfalso
    simp only [zcv] at q
    (repeat' split at q) <;> simp_all
theorem zck_cons {own : Nat} {ini : Bool} {bytes : ByteArray} {i : Instr} {is : List Instr} (h : zck own ini bytes pc (i :: is) = true) : (∃ L, i = .goto_w L ∧ L = (pc : Int)) ∨ ∃ raw len n, decode bytes pc = .ok (raw, len) ∧ zcv own ini pc raw = some (i, n) ∧ (n = len ∨ n = 0) ∧ zck own ini bytes (pc + len) is = true := by
  unfold zck at h
  rw [Bool.or_eq_true] at h
  rcases h with h | h
  · split at h
    · rename_i L
      exact Or.inl ⟨L, rfl, by simpa using h⟩
    · cases h
  · right
    split at h
    · rename_i raw len hd
      split at h
      · rename_i j n hq
        simp only [Bool.and_eq_true, Bool.or_eq_true, decide_eq_true_eq] at h
        obtain ⟨⟨rfl, h2⟩, h3⟩ := h
        exact ⟨raw, len, n, hd, hq, h2, h3⟩
      · cases h
    · cases h
end ZA
