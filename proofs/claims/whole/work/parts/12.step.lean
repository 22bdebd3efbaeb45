/-! one step, whichever it is -/
section ZP
variable {p : Program} {l : Launch} {e : Env} {R : Room} {s : State} {mth : MethodId} {args : Array Value} {below : List Frame} {meth : Method} {c : Code} {Q : State → Prop} {D : va_G} {ca : zC3} {A : Nat → Prop} {base b n0 z0 m pc : Nat} {ext : zE} {ls st ls' st' : List zV} {h h' : zH}
theorem zs_kinds {i : Instr} (hz : zs ext i ls st h = some (ls', st', h')) : h'.1 = h.1 ∨ ∃ kd, h'.1 = h.1 ++ [kd] := by
  unfold zs at hz
  repeat' split at hz
  all_goals first
    | (cases hz; done)
    | (simp only [Option.some.injEq, Prod.mk.injEq] at hz; obtain ⟨rfl, rfl, rfl⟩ := hz; first | exact Or.inl rfl | exact Or.inr ⟨_, rfl⟩)
/-- the instructions that zx itself treats -/
def zctl (i : Instr) : Bool := match i with
  | .goto _ => true
  | .goto_w _ => true
  | .ifCond _ _ => true
  | .if_icmp _ _ => true
  | .tableswitch _ _ _ _ => true
  | .ireturn => true
  | .areturn => true
  | .return_ => true
  | .invokedynamic _ => true
  | _ => false
theorem zctl_or (i : Instr) : zctl i = false ∨ (∃ L, i = .goto L) ∨ (∃ L, i = .goto_w L) ∨ (∃ c L, i = .ifCond c L) ∨ (∃ c L, i = .if_icmp c L) ∨ (∃ a b c o, i = .tableswitch a b c o) ∨ i = .ireturn ∨ i = .areturn ∨ i = .return_ ∨ ∃ k, i = .invokedynamic k := by
  cases i <;> simp [zctl]
theorem zx_other {n d : Nat} {i : Instr} {is : List Instr} (hi : zctl i = false) : zx (n + 1) d ext m (i :: is) ls st h = match zs ext i ls st h with
      | some (ls', st', h') => zx n d ext m is ls' st' h'
      | none => none := by
  cases i <;> first | rfl | cases hi
theorem zx_mono : ∀ (n : Nat) {d m : Nat} {ext : zE} {is : List Instr} {ls st : List zV} {h h' : zH} {r : Option zV}, zx n d ext m is ls st h = some (r, h') → h.1.length ≤ h'.1.length ∧ zsl h.1 ≤ zsl h'.1
  | 0, d, m, ext, is, ls, st, h, h', r, hz => by simp [zx] at hz
  | n + 1, d, m, ext, [], ls, st, h, h', r, hz => by simp [zx] at hz
  | n + 1, d, m, ext, i :: is, ls, st, h, h', r, hz => by
    rcases zctl_or i with hi | ⟨L, rfl⟩ | ⟨L, rfl⟩ | ⟨cc, L, rfl⟩ | ⟨cc, L, rfl⟩ | ⟨df, lo, hi, offs, rfl⟩ | rfl | rfl | rfl | ⟨k, rfl⟩
    · rw [zx_other hi] at hz
      split at hz
      · rename_i ls1 st1 h1 hq
        have ih := zx_mono n hz
        rcases zs_kinds hq with e1 | ⟨kd, e1⟩
        · rw [e1] at ih
          exact ih
        · rw [e1, zsl_push, List.length_append] at ih
          simp only [List.length_singleton] at ih
          omega
      · cases hz
    · simp only [zx] at hz
      exact zx_mono n hz
    · simp only [zx] at hz
      exact zx_mono n hz
    · simp only [zx] at hz
      split at hz
      · split at hz <;> exact zx_mono n hz
      · cases hz
    · simp only [zx] at hz
      split at hz
      · split at hz <;> exact zx_mono n hz
      · cases hz
    · simp only [zx] at hz
      split at hz
      · split at hz <;> exact zx_mono n hz
      · cases hz
    · simp only [zx] at hz
      split at hz
      · split at hz
        · simp only [Option.some.injEq, Prod.mk.injEq] at hz
          obtain ⟨-, rfl⟩ := hz
          exact ⟨Nat.le_refl _, Nat.le_refl _⟩
        · cases hz
      · cases hz
    · simp only [zx] at hz
      split at hz
      · split at hz
        · simp only [Option.some.injEq, Prod.mk.injEq] at hz
          obtain ⟨-, rfl⟩ := hz
          exact ⟨Nat.le_refl _, Nat.le_refl _⟩
        · cases hz
      · cases hz
    · simp only [zx] at hz
      split at hz
      · split at hz
        · simp only [Option.some.injEq, Prod.mk.injEq] at hz
          obtain ⟨-, rfl⟩ := hz
          exact ⟨Nat.le_refl _, Nat.le_refl _⟩
        · cases hz
      · cases hz
    · cases d with
      | zero => simp [zx] at hz
      | succ d =>
        simp only [zx] at hz
        split at hz
        · split at hz
          · rename_i r1 h1 hq
            have i1 := zx_mono n hq
            have i2 := zx_mono n hz
            omega
          · cases hz
        · cases hz
theorem zstep_snd {raw i : Instr} {len n : Nat} (CX : zCx p R s mth args meth c D ca A base n0 m) (XT : zXt ext s A b) (hd : decode (zby m) pc = .ok (raw, len)) (hcv : zcv (zow m) (zini m) pc raw = some (i, n)) (hn : n = len ∨ n = 0) (hctl : zctl i = false) (hz : zs ext i ls st h = some (ls', st', h'))
    (hroom0 : h.1.length - n0 ≤ R.cells ∧ zsl h.1 - z0 ≤ R.slots) (hroom : h'.1.length - n0 ≤ R.cells ∧ zsl h'.1 - z0 ≤ R.slots) (kk : zGo p l e R s mth args below meth c Q D ca A base b n0 z0 m (pc + len) ls' st' h') : zGo p l e R s mth args below meth c Q D ca A base b n0 z0 m pc ls st h := by
  cases raw with
  | iload_n k =>
    simp only [zcv, Option.some.injEq, Prod.mk.injEq] at hcv
    obtain ⟨rfl, rfl⟩ := hcv
    obtain rfl : 1 = len := hn.resolve_right (by decide)
    exact zi_iload_n CX hd hz kk
  | iload k =>
    simp only [zcv, Option.some.injEq, Prod.mk.injEq] at hcv
    obtain ⟨rfl, rfl⟩ := hcv
    obtain rfl : 2 = len := hn.resolve_right (by decide)
    exact zi_iload CX hd hz kk
  | aload_n k =>
    simp only [zcv, Option.some.injEq, Prod.mk.injEq] at hcv
    obtain ⟨rfl, rfl⟩ := hcv
    obtain rfl : 1 = len := hn.resolve_right (by decide)
    exact zi_aload_n CX hd hz kk
  | aload k =>
    simp only [zcv, Option.some.injEq, Prod.mk.injEq] at hcv
    obtain ⟨rfl, rfl⟩ := hcv
    obtain rfl : 2 = len := hn.resolve_right (by decide)
    exact zi_aload CX hd hz kk
  | istore_n k =>
    simp only [zcv, Option.some.injEq, Prod.mk.injEq] at hcv
    obtain ⟨rfl, rfl⟩ := hcv
    obtain rfl : 1 = len := hn.resolve_right (by decide)
    exact zi_istore_n CX hd hz kk
  | istore k =>
    simp only [zcv, Option.some.injEq, Prod.mk.injEq] at hcv
    obtain ⟨rfl, rfl⟩ := hcv
    obtain rfl : 2 = len := hn.resolve_right (by decide)
    exact zi_istore CX hd hz kk
  | astore_n k =>
    simp only [zcv, Option.some.injEq, Prod.mk.injEq] at hcv
    obtain ⟨rfl, rfl⟩ := hcv
    obtain rfl : 1 = len := hn.resolve_right (by decide)
    exact zi_astore_n CX hd hz kk
  | astore k =>
    simp only [zcv, Option.some.injEq, Prod.mk.injEq] at hcv
    obtain ⟨rfl, rfl⟩ := hcv
    obtain rfl : 2 = len := hn.resolve_right (by decide)
    exact zi_astore CX hd hz kk
  | iconst k =>
    simp only [zcv, Option.some.injEq, Prod.mk.injEq] at hcv
    obtain ⟨rfl, rfl⟩ := hcv
    obtain rfl : 1 = len := hn.resolve_right (by decide)
    exact zi_iconst CX hd hz kk
  | dup =>
    simp only [zcv, Option.some.injEq, Prod.mk.injEq] at hcv
    obtain ⟨rfl, rfl⟩ := hcv
    obtain rfl : 1 = len := hn.resolve_right (by decide)
    exact zi_dup CX hd hz kk
  | dup2 =>
    simp only [zcv, Option.some.injEq, Prod.mk.injEq] at hcv
    obtain ⟨rfl, rfl⟩ := hcv
    obtain rfl : 1 = len := hn.resolve_right (by decide)
    exact zi_dup2 CX hd hz kk
  | pop =>
    simp only [zcv, Option.some.injEq, Prod.mk.injEq] at hcv
    obtain ⟨rfl, rfl⟩ := hcv
    obtain rfl : 1 = len := hn.resolve_right (by decide)
    exact zi_pop CX hd hz kk
  | iadd =>
    simp only [zcv, Option.some.injEq, Prod.mk.injEq] at hcv
    obtain ⟨rfl, rfl⟩ := hcv
    obtain rfl : 1 = len := hn.resolve_right (by decide)
    exact zi_iadd CX hd hz kk
  | isub =>
    simp only [zcv, Option.some.injEq, Prod.mk.injEq] at hcv
    obtain ⟨rfl, rfl⟩ := hcv
    obtain rfl : 1 = len := hn.resolve_right (by decide)
    exact zi_isub CX hd hz kk
  | imul =>
    simp only [zcv, Option.some.injEq, Prod.mk.injEq] at hcv
    obtain ⟨rfl, rfl⟩ := hcv
    obtain rfl : 1 = len := hn.resolve_right (by decide)
    exact zi_imul CX hd hz kk
  | idiv =>
    simp only [zcv, Option.some.injEq, Prod.mk.injEq] at hcv
    obtain ⟨rfl, rfl⟩ := hcv
    obtain rfl : 1 = len := hn.resolve_right (by decide)
    exact zi_idiv CX hd hz kk
  | irem =>
    simp only [zcv, Option.some.injEq, Prod.mk.injEq] at hcv
    obtain ⟨rfl, rfl⟩ := hcv
    obtain rfl : 1 = len := hn.resolve_right (by decide)
    exact zi_irem CX hd hz kk
  | ineg =>
    simp only [zcv, Option.some.injEq, Prod.mk.injEq] at hcv
    obtain ⟨rfl, rfl⟩ := hcv
    obtain rfl : 1 = len := hn.resolve_right (by decide)
    exact zi_ineg CX hd hz kk
  | iand =>
    simp only [zcv, Option.some.injEq, Prod.mk.injEq] at hcv
    obtain ⟨rfl, rfl⟩ := hcv
    obtain rfl : 1 = len := hn.resolve_right (by decide)
    exact zi_iand CX hd hz kk
  | ior =>
    simp only [zcv, Option.some.injEq, Prod.mk.injEq] at hcv
    obtain ⟨rfl, rfl⟩ := hcv
    obtain rfl : 1 = len := hn.resolve_right (by decide)
    exact zi_ior CX hd hz kk
  | ixor =>
    simp only [zcv, Option.some.injEq, Prod.mk.injEq] at hcv
    obtain ⟨rfl, rfl⟩ := hcv
    obtain rfl : 1 = len := hn.resolve_right (by decide)
    exact zi_ixor CX hd hz kk
  | ishl =>
    simp only [zcv, Option.some.injEq, Prod.mk.injEq] at hcv
    obtain ⟨rfl, rfl⟩ := hcv
    obtain rfl : 1 = len := hn.resolve_right (by decide)
    exact zi_ishl CX hd hz kk
  | ishr =>
    simp only [zcv, Option.some.injEq, Prod.mk.injEq] at hcv
    obtain ⟨rfl, rfl⟩ := hcv
    obtain rfl : 1 = len := hn.resolve_right (by decide)
    exact zi_ishr CX hd hz kk
  | iastore =>
    simp only [zcv, Option.some.injEq, Prod.mk.injEq] at hcv
    obtain ⟨rfl, rfl⟩ := hcv
    obtain rfl : 1 = len := hn.resolve_right (by decide)
    exact zi_iastore CX hd hz kk
  | baload =>
    simp only [zcv, Option.some.injEq, Prod.mk.injEq] at hcv
    obtain ⟨rfl, rfl⟩ := hcv
    obtain rfl : 1 = len := hn.resolve_right (by decide)
    exact zi_baload CX hd hz kk
  | bastore =>
    simp only [zcv, Option.some.injEq, Prod.mk.injEq] at hcv
    obtain ⟨rfl, rfl⟩ := hcv
    obtain rfl : 1 = len := hn.resolve_right (by decide)
    exact zi_bastore CX hd hz kk
  | aaload =>
    simp only [zcv, Option.some.injEq, Prod.mk.injEq] at hcv
    obtain ⟨rfl, rfl⟩ := hcv
    obtain rfl : 1 = len := hn.resolve_right (by decide)
    exact zi_aaload CX hd hz kk
  | aastore =>
    simp only [zcv, Option.some.injEq, Prod.mk.injEq] at hcv
    obtain ⟨rfl, rfl⟩ := hcv
    obtain rfl : 1 = len := hn.resolve_right (by decide)
    exact zi_aastore CX hd hz kk
  | iaload =>
    simp only [zcv, Option.some.injEq, Prod.mk.injEq] at hcv
    obtain ⟨rfl, rfl⟩ := hcv
    obtain rfl : 1 = len := hn.resolve_right (by decide)
    exact zi_iaload CX XT hd hz kk
  | arraylength =>
    simp only [zcv, Option.some.injEq, Prod.mk.injEq] at hcv
    obtain ⟨rfl, rfl⟩ := hcv
    obtain rfl : 1 = len := hn.resolve_right (by decide)
    exact zi_arraylength CX XT hd hz kk
  | iinc k c =>
    simp only [zcv] at hcv
    split at hcv
    · simp only [Option.some.injEq, Prod.mk.injEq] at hcv
      obtain ⟨rfl, rfl⟩ := hcv
      obtain rfl : 3 = len := hn.resolve_right (by decide)
      exact zi_iinc CX hd hz kk
    · cases hcv
  | bipush c =>
    simp only [zcv] at hcv
    split at hcv
    · rename_i hr
      simp only [Option.some.injEq, Prod.mk.injEq] at hcv
      obtain ⟨rfl, rfl⟩ := hcv
      obtain rfl : 2 = len := hn.resolve_right (by decide)
      exact zi_bipush CX hd hr hz kk
    · cases hcv
  | sipush c =>
    simp only [zcv] at hcv
    split at hcv
    · rename_i hr
      simp only [Option.some.injEq, Prod.mk.injEq] at hcv
      obtain ⟨rfl, rfl⟩ := hcv
      obtain rfl : 3 = len := hn.resolve_right (by decide)
      exact zi_sipush CX hd hr hz kk
    · cases hcv
  | goto o =>
    simp only [zcv] at hcv
    repeat' split at hcv
    all_goals first
      | (simp only [Option.some.injEq, Prod.mk.injEq] at hcv; obtain ⟨rfl, rfl⟩ := hcv; cases hctl)
      | cases hcv
  | ifCond cc o =>
    simp only [zcv] at hcv
    repeat' split at hcv
    all_goals first
      | (simp only [Option.some.injEq, Prod.mk.injEq] at hcv; obtain ⟨rfl, rfl⟩ := hcv; cases hctl)
      | cases hcv
  | if_icmp cc o =>
    simp only [zcv] at hcv
    repeat' split at hcv
    all_goals first
      | (simp only [Option.some.injEq, Prod.mk.injEq] at hcv; obtain ⟨rfl, rfl⟩ := hcv; cases hctl)
      | cases hcv
  | tableswitch a1 a2 a3 a4 =>
    simp only [zcv] at hcv
    repeat' split at hcv
    all_goals first
      | (simp only [Option.some.injEq, Prod.mk.injEq] at hcv; obtain ⟨rfl, rfl⟩ := hcv; cases hctl)
      | cases hcv
  | invokevirtual x =>
    simp only [zcv] at hcv
    repeat' split at hcv
    all_goals first
      | (simp only [Option.some.injEq, Prod.mk.injEq] at hcv; obtain ⟨rfl, rfl⟩ := hcv; cases hctl)
      | cases hcv
  | ireturn =>
    simp only [zcv] at hcv
    repeat' split at hcv
    all_goals first
      | (simp only [Option.some.injEq, Prod.mk.injEq] at hcv; obtain ⟨rfl, rfl⟩ := hcv; cases hctl)
      | cases hcv
  | areturn =>
    simp only [zcv] at hcv
    repeat' split at hcv
    all_goals first
      | (simp only [Option.some.injEq, Prod.mk.injEq] at hcv; obtain ⟨rfl, rfl⟩ := hcv; cases hctl)
      | cases hcv
  | return_ =>
    simp only [zcv] at hcv
    repeat' split at hcv
    all_goals first
      | (simp only [Option.some.injEq, Prod.mk.injEq] at hcv; obtain ⟨rfl, rfl⟩ := hcv; cases hctl)
      | cases hcv
  | getfield x =>
    simp only [zcv] at hcv
    split at hcv
    · rename_i ci k hf
      split at hcv
      · rename_i hb
        split at hcv
        · rename_i hty
          simp only [Option.some.injEq, Prod.mk.injEq] at hcv
          obtain ⟨rfl, rfl⟩ := hcv
          obtain rfl : 3 = len := hn.resolve_right (by decide)
          exact zi_getI CX hd hf hb.1 hb.2.1 hty hz kk
        · rename_i hty
          simp only [Option.some.injEq, Prod.mk.injEq] at hcv
          obtain ⟨rfl, rfl⟩ := hcv
          obtain rfl : 3 = len := hn.resolve_right (by decide)
          exact zi_getR CX hd hf hb.1 hb.2.1 hb.2.2 hty hz kk
      · cases hcv
    · cases hcv
  | putfield x =>
    simp only [zcv] at hcv
    split at hcv
    · rename_i ci k hf
      split at hcv
      · rename_i hb
        split at hcv
        · rename_i hty
          simp only [Option.some.injEq, Prod.mk.injEq] at hcv
          obtain ⟨rfl, rfl⟩ := hcv
          obtain rfl : 3 = len := hn.resolve_right (by decide)
          exact zi_putI CX hd hf hb.1 hb.2.1 hb.2.2.2 hty hz kk
        · rename_i hty
          simp only [Option.some.injEq, Prod.mk.injEq] at hcv
          obtain ⟨rfl, rfl⟩ := hcv
          obtain rfl : 3 = len := hn.resolve_right (by decide)
          exact zi_putR CX hd hf hb.1 hb.2.1 hb.2.2.1 hb.2.2.2 hty hz kk
      · cases hcv
    · cases hcv
  | invokestatic x =>
    simp only [zcv] at hcv
    split at hcv
    · split at hcv
      · simp only [Option.some.injEq, Prod.mk.injEq] at hcv
        obtain ⟨rfl, rfl⟩ := hcv
        cases hctl
      · cases hcv
    · split at hcv
      · split at hcv
        · simp only [Option.some.injEq, Prod.mk.injEq] at hcv
          obtain ⟨rfl, rfl⟩ := hcv
          cases hctl
        · cases hcv
      · split at hcv
        · rename_i hf
          simp only [Option.some.injEq, Prod.mk.injEq] at hcv
          obtain ⟨rfl, rfl⟩ := hcv
          obtain rfl : 3 = len := hn.resolve_right (by decide)
          exact zi_mmax CX hd hf hroom0 hz kk
        · rename_i hf
          simp only [Option.some.injEq, Prod.mk.injEq] at hcv
          obtain ⟨rfl, rfl⟩ := hcv
          obtain rfl : 3 = len := hn.resolve_right (by decide)
          exact zi_mmin CX hd hf hroom0 hz kk
        · rename_i hf
          simp only [Option.some.injEq, Prod.mk.injEq] at hcv
          obtain ⟨rfl, rfl⟩ := hcv
          obtain rfl : 3 = len := hn.resolve_right (by decide)
          exact zi_copy CX hd hf hz kk
        · cases hcv
  | invokespecial x =>
    simp only [zcv] at hcv
    split at hcv
    · split at hcv
      · simp only [Option.some.injEq, Prod.mk.injEq] at hcv
        obtain ⟨rfl, rfl⟩ := hcv
        cases hctl
      · cases hcv
    · split at hcv
      · split at hcv
        · simp only [Option.some.injEq, Prod.mk.injEq] at hcv
          obtain ⟨rfl, rfl⟩ := hcv
          cases hctl
        · cases hcv
      · split at hcv
        · rename_i hf
          simp only [Option.some.injEq, Prod.mk.injEq] at hcv
          obtain ⟨rfl, rfl⟩ := hcv
          obtain rfl : 3 = len := hn.resolve_right (by decide)
          exact zi_objinit CX hd hf hz kk
        · cases hcv
  | new x =>
    simp only [zcv] at hcv
    split at hcv
    · rename_i ci hf
      simp only [Option.some.injEq, Prod.mk.injEq] at hcv
      obtain ⟨rfl, rfl⟩ := hcv
      obtain rfl : 3 = len := hn.resolve_right (by decide)
      exact zi_new CX hd hf hz hroom kk
    · cases hcv
  | anewarray x =>
    simp only [zcv] at hcv
    split at hcv
    · rename_i hf
      simp only [Option.some.injEq, Prod.mk.injEq] at hcv
      obtain ⟨rfl, rfl⟩ := hcv
      obtain rfl : 3 = len := hn.resolve_right (by decide)
      exact zi_anewarray CX hd hf hz hroom kk
    · cases hcv
  | newarray t =>
    cases t with
    | int =>
      simp only [zcv, Option.some.injEq, Prod.mk.injEq] at hcv
      obtain ⟨rfl, rfl⟩ := hcv
      obtain rfl : 2 = len := hn.resolve_right (by decide)
      exact zi_newarray_int CX hd hz hroom kk
    | boolean =>
      simp only [zcv, Option.some.injEq, Prod.mk.injEq] at hcv
      obtain ⟨rfl, rfl⟩ := hcv
      obtain rfl : 2 = len := hn.resolve_right (by decide)
      exact zi_newarray_boolean CX hd hz hroom kk
    | _ => exact absurd hcv (by simp [zcv])
  | _ => exact absurd hcv (by simp [zcv])
end ZP
