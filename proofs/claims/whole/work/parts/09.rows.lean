/-! the small machine's instructions, one by one, in the real one: zGo says that from every real state that holds this small one Q is reached -/
section ZR
variable {p : Program} {l : Launch} {e : Env} {R : Room} {s : State} {mth : MethodId} {args : Array Value} {below : List Frame} {meth : Method} {c : Code} {Q : State → Prop} {D : va_G} {ca : zC3} {A : Nat → Prop} {base b n0 z0 m pc : Nat} {ext : zE} {ls st ls' st' : List zV} {h h' : zH}
def zWd (D : va_G) (ca : zC3) (s : State) (A : Nat → Prop) (base b n0 z0 : Nat) (h : zH) (H : Heap) (locs : List Loc) : Prop :=
  va_P D vwCl (ztw ca base b h) H ∧ va_D A (ztw ca base b h) ∧ va_S A s.heap H locs ∧ h.1.length ≤ 1000000 ∧ (∀ o j, zI (h.2.1 o j)) ∧ n0 ≤ h.1.length ∧ z0 ≤ zsl h.1
def zGo (p : Program) (l : Launch) (e : Env) (R : Room) (s : State) (mth : MethodId) (args : Array Value) (below : List Frame) (meth : Method) (c : Code) (Q : State → Prop) (D : va_G) (ca : zC3) (A : Nat → Prop) (base b n0 z0 m pc : Nat) (ls st : List zV) (h : zH) : Prop :=
  ∀ (H : Heap) (locs : List Loc) (lsA : Array Slot), zWd D ca s A base b n0 z0 h H locs → lv_has lsA (zml m) (zlv base b 0 ls) → ls.length = zml m → (∀ v ∈ ls, zVI v) → (∀ v ∈ st, zVI v) →
    W p l e R s mth args below meth c H locs (h.1.length - n0) (zsl h.1 - z0) Q (F0 mth pc lsA (st.map (ztv base b)))
def zCx (p : Program) (R : Room) (s : State) (mth : MethodId) (args : Array Value) (meth : Method) (c : Code) (D : va_G) (ca : zC3) (A : Nat → Prop) (base n0 m : Nat) : Prop :=
  p.tables.exec = Jvm.exec ∧ c.code = zby m ∧ c.maxLocals = zml m ∧ s.vm.findClass (zcn (zow m)) = some mth.cls ∧ (∀ w ∈ zgw, w.before args s = true) ∧ ((∀ w ∈ zwLkN, va_Nw w s) ∧ va_AO RX5 s) ∧ va_K D vwCl (zTys ca) s ∧ (zini m = true → meth.name = "<init>") ∧
    (∀ q, s.heap.size ≤ q → A q) ∧ s.heap.size = base + n0 ∧ meth.locks = false ∧ 1 ≤ R.frames ∧ 200 ≤ R.locals
/-- the script, that only the law's own frame reads -/
def zXt (ext : zE) (s : State) (A : Nat → Prop) (b : Nat) : Prop := match ext with
  | none => True
  | some (n, xs) => va_X b n (fun j => Int32.ofInt (xs j)) s s.heap ∧ b < s.heap.size ∧ ¬ A b ∧ ∀ j, zI (xs j)
-- the end of a step: what zs says, taken apart
theorem zi_iload_n {k : Fin 4} (CX : zCx p R s mth args meth c D ca A base n0 m) (hd : decode (zby m) pc = .ok (.iload_n k, 1)) (hz : zs ext (.iload k) ls st h = some (ls', st', h')) (kk : zGo p l e R s mth args below meth c Q D ca A base b n0 z0 m (pc + 1) ls' st' h') : zGo p l e R s mth args below meth c Q D ca A base b n0 z0 m pc ls st h := by
  simp only [zs] at hz
  split at hz
  · rename_i x hg
    simp only [Option.some.injEq, Prod.mk.injEq] at hz
    obtain ⟨rfl, rfl, rfl⟩ := hz
    intro H locs lsA hW hl hn h1 h2
    obtain ⟨hx, hb, hml, hown, hts, hnw, hK, hini, hA, hbase, hlk, hfr, hlo⟩ := id CX
    exact lv_iload_n hx hb hd rfl (by simpa [ztv] using hl.2.2 _ (zlv_mem hg (by simp))) (kk H locs lsA hW hl hn h1 (List.forall_mem_cons.mpr ⟨by have := zget_all (P := zVI) trivial h1 (k := k); rwa [hg] at this, h2⟩))
  · cases hz
theorem zi_iload {k : Nat} (CX : zCx p R s mth args meth c D ca A base n0 m) (hd : decode (zby m) pc = .ok (.iload k, 2)) (hz : zs ext (.iload k) ls st h = some (ls', st', h')) (kk : zGo p l e R s mth args below meth c Q D ca A base b n0 z0 m (pc + 2) ls' st' h') : zGo p l e R s mth args below meth c Q D ca A base b n0 z0 m pc ls st h := by
  simp only [zs] at hz
  split at hz
  · rename_i x hg
    simp only [Option.some.injEq, Prod.mk.injEq] at hz
    obtain ⟨rfl, rfl, rfl⟩ := hz
    intro H locs lsA hW hl hn h1 h2
    obtain ⟨hx, hb, hml, hown, hts, hnw, hK, hini, hA, hbase, hlk, hfr, hlo⟩ := id CX
    exact lv_iload hx hb hd (by simpa [ztv] using hl.2.2 _ (zlv_mem hg (by simp))) (kk H locs lsA hW hl hn h1 (List.forall_mem_cons.mpr ⟨by have := zget_all (P := zVI) trivial h1 (k := k); rwa [hg] at this, h2⟩))
  · cases hz
theorem zi_aload_n {k : Fin 4} (CX : zCx p R s mth args meth c D ca A base n0 m) (hd : decode (zby m) pc = .ok (.aload_n k, 1)) (hz : zs ext (.aload k) ls st h = some (ls', st', h')) (kk : zGo p l e R s mth args below meth c Q D ca A base b n0 z0 m (pc + 1) ls' st' h') : zGo p l e R s mth args below meth c Q D ca A base b n0 z0 m pc ls st h := by
  simp only [zs] at hz
  split at hz
  · rename_i x hg
    simp only [Option.some.injEq, Prod.mk.injEq] at hz
    obtain ⟨rfl, rfl, rfl⟩ := hz
    intro H locs lsA hW hl hn h1 h2
    obtain ⟨hx, hb, hml, hown, hts, hnw, hK, hini, hA, hbase, hlk, hfr, hlo⟩ := id CX
    exact lv_aload_n hx hb hd rfl (by simpa [ztv] using hl.2.2 _ (zlv_mem hg (by simp))) (kk H locs lsA hW hl hn h1 (List.forall_mem_cons.mpr ⟨trivial, h2⟩))
  · cases hz
theorem zi_aload {k : Nat} (CX : zCx p R s mth args meth c D ca A base n0 m) (hd : decode (zby m) pc = .ok (.aload k, 2)) (hz : zs ext (.aload k) ls st h = some (ls', st', h')) (kk : zGo p l e R s mth args below meth c Q D ca A base b n0 z0 m (pc + 2) ls' st' h') : zGo p l e R s mth args below meth c Q D ca A base b n0 z0 m pc ls st h := by
  simp only [zs] at hz
  split at hz
  · rename_i x hg
    simp only [Option.some.injEq, Prod.mk.injEq] at hz
    obtain ⟨rfl, rfl, rfl⟩ := hz
    intro H locs lsA hW hl hn h1 h2
    obtain ⟨hx, hb, hml, hown, hts, hnw, hK, hini, hA, hbase, hlk, hfr, hlo⟩ := id CX
    exact lv_aload hx hb hd (by simpa [ztv] using hl.2.2 _ (zlv_mem hg (by simp))) (kk H locs lsA hW hl hn h1 (List.forall_mem_cons.mpr ⟨trivial, h2⟩))
  · cases hz
theorem zl_set {lsA : Array Slot} {k : Nat} {x : zV} (h : lv_has lsA (zml m) ((k, ztv base b x) :: (zlv base b 0 ls).filter (fun q => !(q.1 == k) && !(q.1 + 1 == k && q.2.category == 2)))) : lv_has lsA (zml m) (zlv base b 0 (zset ls k x)) := by
  refine ⟨h.1, h.2.1, fun q hq => h.2.2 q ?_⟩
  rcases zlv_set hq with rfl | ⟨h3, h4⟩
  · rw [Nat.zero_add]
    exact List.mem_cons_self
  · refine List.mem_cons_of_mem _ (List.mem_filter.mpr ⟨h3, ?_⟩)
    have h5 := zlv_cat2 h3
    rw [Nat.zero_add] at h4
    simp [h4, h5]
theorem zi_istore_n {k : Fin 4} (CX : zCx p R s mth args meth c D ca A base n0 m) (hd : decode (zby m) pc = .ok (.istore_n k, 1)) (hz : zs ext (.istore k) ls st h = some (ls', st', h')) (kk : zGo p l e R s mth args below meth c Q D ca A base b n0 z0 m (pc + 1) ls' st' h') : zGo p l e R s mth args below meth c Q D ca A base b n0 z0 m pc ls st h := by
  simp only [zs] at hz
  split at hz
  · rename_i x st
    split at hz
    · rename_i hk
      simp only [Option.some.injEq, Prod.mk.injEq] at hz
      obtain ⟨rfl, rfl, rfl⟩ := hz
      intro H locs lsA hW hl hn h1 h2
      obtain ⟨hx, hb, hml, hown, hts, hnw, hK, hini, hA, hbase, hlk, hfr, hlo⟩ := id CX
      have h3 := List.forall_mem_cons.mp h2
      exact lv_istore_n hx hb hd rfl hl (by omega) rfl (fun lsA' hl' => kk H locs lsA' hW (zl_set (x := .inl x) hl') (by rw [zset_len]; exact hn) (zset_all h1 h3.1) h3.2)
    · cases hz
  · cases hz
theorem zi_istore {k : Nat} (CX : zCx p R s mth args meth c D ca A base n0 m) (hd : decode (zby m) pc = .ok (.istore k, 2)) (hz : zs ext (.istore k) ls st h = some (ls', st', h')) (kk : zGo p l e R s mth args below meth c Q D ca A base b n0 z0 m (pc + 2) ls' st' h') : zGo p l e R s mth args below meth c Q D ca A base b n0 z0 m pc ls st h := by
  simp only [zs] at hz
  split at hz
  · rename_i x st
    split at hz
    · rename_i hk
      simp only [Option.some.injEq, Prod.mk.injEq] at hz
      obtain ⟨rfl, rfl, rfl⟩ := hz
      intro H locs lsA hW hl hn h1 h2
      obtain ⟨hx, hb, hml, hown, hts, hnw, hK, hini, hA, hbase, hlk, hfr, hlo⟩ := id CX
      have h3 := List.forall_mem_cons.mp h2
      exact lv_istore hx hb hd hl (by omega) rfl (fun lsA' hl' => kk H locs lsA' hW (zl_set (x := .inl x) hl') (by rw [zset_len]; exact hn) (zset_all h1 h3.1) h3.2)
    · cases hz
  · cases hz
theorem zi_astore_n {k : Fin 4} (CX : zCx p R s mth args meth c D ca A base n0 m) (hd : decode (zby m) pc = .ok (.astore_n k, 1)) (hz : zs ext (.astore k) ls st h = some (ls', st', h')) (kk : zGo p l e R s mth args below meth c Q D ca A base b n0 z0 m (pc + 1) ls' st' h') : zGo p l e R s mth args below meth c Q D ca A base b n0 z0 m pc ls st h := by
  simp only [zs] at hz
  split at hz
  · rename_i x st
    split at hz
    · rename_i hk
      simp only [Option.some.injEq, Prod.mk.injEq] at hz
      obtain ⟨rfl, rfl, rfl⟩ := hz
      intro H locs lsA hW hl hn h1 h2
      obtain ⟨hx, hb, hml, hown, hts, hnw, hK, hini, hA, hbase, hlk, hfr, hlo⟩ := id CX
      have h3 := List.forall_mem_cons.mp h2
      exact lv_astore_n hx hb hd rfl hl (by omega) rfl (fun lsA' hl' => kk H locs lsA' hW (zl_set (x := .inr (some x)) hl') (by rw [zset_len]; exact hn) (zset_all h1 trivial) h3.2)
    · cases hz
  · cases hz
theorem zi_astore {k : Nat} (CX : zCx p R s mth args meth c D ca A base n0 m) (hd : decode (zby m) pc = .ok (.astore k, 2)) (hz : zs ext (.astore k) ls st h = some (ls', st', h')) (kk : zGo p l e R s mth args below meth c Q D ca A base b n0 z0 m (pc + 2) ls' st' h') : zGo p l e R s mth args below meth c Q D ca A base b n0 z0 m pc ls st h := by
  simp only [zs] at hz
  split at hz
  · rename_i x st
    split at hz
    · rename_i hk
      simp only [Option.some.injEq, Prod.mk.injEq] at hz
      obtain ⟨rfl, rfl, rfl⟩ := hz
      intro H locs lsA hW hl hn h1 h2
      obtain ⟨hx, hb, hml, hown, hts, hnw, hK, hini, hA, hbase, hlk, hfr, hlo⟩ := id CX
      have h3 := List.forall_mem_cons.mp h2
      exact lv_astore hx hb hd hl (by omega) rfl (fun lsA' hl' => kk H locs lsA' hW (zl_set (x := .inr (some x)) hl') (by rw [zset_len]; exact hn) (zset_all h1 trivial) h3.2)
    · cases hz
  · cases hz
theorem zi_iinc {k : Nat} {n : Int} (CX : zCx p R s mth args meth c D ca A base n0 m) (hd : decode (zby m) pc = .ok (.iinc k n, 3)) (hz : zs ext (.iinc k n) ls st h = some (ls', st', h')) (kk : zGo p l e R s mth args below meth c Q D ca A base b n0 z0 m (pc + 3) ls' st' h') : zGo p l e R s mth args below meth c Q D ca A base b n0 z0 m pc ls st h := by
  simp only [zs] at hz
  split at hz
  · rename_i x hg
    split at hz
    · rename_i hk
      simp only [Option.some.injEq, Prod.mk.injEq] at hz
      obtain ⟨rfl, rfl, rfl⟩ := hz
      intro H locs lsA hW hl hn h1 h2
      obtain ⟨hx, hb, hml, hown, hts, hnw, hK, hini, hA, hbase, hlk, hfr, hlo⟩ := id CX
      have hm := zlv_mem (base := base) (b := b) (i := 0) hg (by simp)
      rw [Nat.zero_add] at hm
      obtain ⟨j, hj⟩ := List.getElem?_of_mem hm
      exact lv_iinc (v := Int32.ofInt (x + n)) hx hb hd hl hj (by rw [Int32.ofInt_add]) (by omega) rfl (fun lsA' hl' => kk H locs lsA' hW (zl_set (x := .inl (x + n)) hl') (by rw [zset_len]; exact hn) (zset_all h1 hk.1) h2)
    · cases hz
  · cases hz
theorem zi_iconst {n : Int} (CX : zCx p R s mth args meth c D ca A base n0 m) (hd : decode (zby m) pc = .ok (.iconst n, 1)) (hz : zs ext (.iconst n) ls st h = some (ls', st', h')) (kk : zGo p l e R s mth args below meth c Q D ca A base b n0 z0 m (pc + 1) ls' st' h') : zGo p l e R s mth args below meth c Q D ca A base b n0 z0 m pc ls st h := by
  simp only [zs] at hz
  split at hz
  · rename_i hk
    simp only [Option.some.injEq, Prod.mk.injEq] at hz
    obtain ⟨rfl, rfl, rfl⟩ := hz
    intro H locs lsA hW hl hn h1 h2
    obtain ⟨hx, hb, hml, hown, hts, hnw, hK, hini, hA, hbase, hlk, hfr, hlo⟩ := id CX
    exact lv_iconst hx hb hd rfl (kk H locs lsA hW hl hn h1 (List.forall_mem_cons.mpr ⟨hk, h2⟩))
  · cases hz
theorem zi_bipush {n : Int} (CX : zCx p R s mth args meth c D ca A base n0 m) (hd : decode (zby m) pc = .ok (.bipush n, 2)) (hr : -128 ≤ n ∧ n ≤ 127) (hz : zs ext (.iconst n) ls st h = some (ls', st', h')) (kk : zGo p l e R s mth args below meth c Q D ca A base b n0 z0 m (pc + 2) ls' st' h') : zGo p l e R s mth args below meth c Q D ca A base b n0 z0 m pc ls st h := by
  simp only [zs] at hz
  split at hz
  · rename_i hk
    simp only [Option.some.injEq, Prod.mk.injEq] at hz
    obtain ⟨rfl, rfl, rfl⟩ := hz
    intro H locs lsA hW hl hn h1 h2
    obtain ⟨hx, hb, hml, hown, hts, hnw, hK, hini, hA, hbase, hlk, hfr, hlo⟩ := id CX
    exact lv_bipush hx hb hd (z32_i8 hr) (kk H locs lsA hW hl hn h1 (List.forall_mem_cons.mpr ⟨hk, h2⟩))
  · cases hz
theorem zi_sipush {n : Int} (CX : zCx p R s mth args meth c D ca A base n0 m) (hd : decode (zby m) pc = .ok (.sipush n, 3)) (hr : -32768 ≤ n ∧ n ≤ 32767) (hz : zs ext (.iconst n) ls st h = some (ls', st', h')) (kk : zGo p l e R s mth args below meth c Q D ca A base b n0 z0 m (pc + 3) ls' st' h') : zGo p l e R s mth args below meth c Q D ca A base b n0 z0 m pc ls st h := by
  simp only [zs] at hz
  split at hz
  · rename_i hk
    simp only [Option.some.injEq, Prod.mk.injEq] at hz
    obtain ⟨rfl, rfl, rfl⟩ := hz
    intro H locs lsA hW hl hn h1 h2
    obtain ⟨hx, hb, hml, hown, hts, hnw, hK, hini, hA, hbase, hlk, hfr, hlo⟩ := id CX
    exact lv_sipush hx hb hd (z32_i16 hr) (kk H locs lsA hW hl hn h1 (List.forall_mem_cons.mpr ⟨hk, h2⟩))
  · cases hz
theorem zi_dup (CX : zCx p R s mth args meth c D ca A base n0 m) (hd : decode (zby m) pc = .ok (.dup, 1)) (hz : zs ext .dup ls st h = some (ls', st', h')) (kk : zGo p l e R s mth args below meth c Q D ca A base b n0 z0 m (pc + 1) ls' st' h') : zGo p l e R s mth args below meth c Q D ca A base b n0 z0 m pc ls st h := by
  simp only [zs] at hz
  split at hz
  · simp only [Option.some.injEq, Prod.mk.injEq] at hz
    obtain ⟨rfl, rfl, rfl⟩ := hz
    intro H locs lsA hW hl hn h1 h2
    obtain ⟨hx, hb, hml, hown, hts, hnw, hK, hini, hA, hbase, hlk, hfr, hlo⟩ := id CX
    have h3 := List.forall_mem_cons.mp h2
    exact lv_dup hx hb hd zlv_cat (kk H locs lsA hW hl hn h1 (List.forall_mem_cons.mpr ⟨h3.1, h2⟩))
  · cases hz
theorem zi_dup2 (CX : zCx p R s mth args meth c D ca A base n0 m) (hd : decode (zby m) pc = .ok (.dup2, 1)) (hz : zs ext .dup2 ls st h = some (ls', st', h')) (kk : zGo p l e R s mth args below meth c Q D ca A base b n0 z0 m (pc + 1) ls' st' h') : zGo p l e R s mth args below meth c Q D ca A base b n0 z0 m pc ls st h := by
  simp only [zs] at hz
  split at hz
  · simp only [Option.some.injEq, Prod.mk.injEq] at hz
    obtain ⟨rfl, rfl, rfl⟩ := hz
    intro H locs lsA hW hl hn h1 h2
    obtain ⟨hx, hb, hml, hown, hts, hnw, hK, hini, hA, hbase, hlk, hfr, hlo⟩ := id CX
    have h3 := List.forall_mem_cons.mp h2
    have h4 := List.forall_mem_cons.mp h3.2
    exact lv_dup2_11 hx hb hd zlv_cat zlv_cat (kk H locs lsA hW hl hn h1 (List.forall_mem_cons.mpr ⟨h3.1, List.forall_mem_cons.mpr ⟨h4.1, h2⟩⟩))
  · cases hz
theorem zi_pop (CX : zCx p R s mth args meth c D ca A base n0 m) (hd : decode (zby m) pc = .ok (.pop, 1)) (hz : zs ext .pop ls st h = some (ls', st', h')) (kk : zGo p l e R s mth args below meth c Q D ca A base b n0 z0 m (pc + 1) ls' st' h') : zGo p l e R s mth args below meth c Q D ca A base b n0 z0 m pc ls st h := by
  simp only [zs] at hz
  split at hz
  · simp only [Option.some.injEq, Prod.mk.injEq] at hz
    obtain ⟨rfl, rfl, rfl⟩ := hz
    intro H locs lsA hW hl hn h1 h2
    obtain ⟨hx, hb, hml, hown, hts, hnw, hK, hini, hA, hbase, hlk, hfr, hlo⟩ := id CX
    exact lv_pop hx hb hd zlv_cat (kk H locs lsA hW hl hn h1 (List.forall_mem_cons.mp h2).2)
  · cases hz
-- two numbers to one
theorem zi_iadd (CX : zCx p R s mth args meth c D ca A base n0 m) (hd : decode (zby m) pc = .ok (.iadd, 1)) (hz : zs ext .iadd ls st h = some (ls', st', h')) (kk : zGo p l e R s mth args below meth c Q D ca A base b n0 z0 m (pc + 1) ls' st' h') : zGo p l e R s mth args below meth c Q D ca A base b n0 z0 m pc ls st h := by
  simp only [zs] at hz
  split at hz
  · rename_i y x st
    split at hz
    · rename_i hk
      simp only [Option.some.injEq, Prod.mk.injEq] at hz
      obtain ⟨rfl, rfl, rfl⟩ := hz
      intro H locs lsA hW hl hn h1 h2
      obtain ⟨hx, hb, hml, hown, hts, hnw, hK, hini, hA, hbase, hlk, hfr, hlo⟩ := id CX
      have h3 := List.forall_mem_cons.mp h2
      have h4 := List.forall_mem_cons.mp h3.2
      have k2 := kk H locs lsA hW hl hn h1 (List.forall_mem_cons.mpr ⟨hk, h4.2⟩)
      refine lv_iadd hx hb hd ?_
      rw [List.map_cons, show ztv base b (.inl (x + y)) = .int (Int32.ofInt x + Int32.ofInt y) from congrArg Value.int (Int32.ofInt_add _ _)] at k2
      exact k2
    · cases hz
  · cases hz
theorem zi_isub (CX : zCx p R s mth args meth c D ca A base n0 m) (hd : decode (zby m) pc = .ok (.isub, 1)) (hz : zs ext .isub ls st h = some (ls', st', h')) (kk : zGo p l e R s mth args below meth c Q D ca A base b n0 z0 m (pc + 1) ls' st' h') : zGo p l e R s mth args below meth c Q D ca A base b n0 z0 m pc ls st h := by
  simp only [zs] at hz
  split at hz
  · rename_i y x st
    split at hz
    · rename_i hk
      simp only [Option.some.injEq, Prod.mk.injEq] at hz
      obtain ⟨rfl, rfl, rfl⟩ := hz
      intro H locs lsA hW hl hn h1 h2
      obtain ⟨hx, hb, hml, hown, hts, hnw, hK, hini, hA, hbase, hlk, hfr, hlo⟩ := id CX
      have h3 := List.forall_mem_cons.mp h2
      have h4 := List.forall_mem_cons.mp h3.2
      have k2 := kk H locs lsA hW hl hn h1 (List.forall_mem_cons.mpr ⟨hk, h4.2⟩)
      refine lv_isub hx hb hd ?_
      rw [List.map_cons, show ztv base b (.inl (x - y)) = .int (Int32.ofInt x - Int32.ofInt y) from congrArg Value.int (Int32.ofInt_sub _ _)] at k2
      exact k2
    · cases hz
  · cases hz
theorem zi_imul (CX : zCx p R s mth args meth c D ca A base n0 m) (hd : decode (zby m) pc = .ok (.imul, 1)) (hz : zs ext .imul ls st h = some (ls', st', h')) (kk : zGo p l e R s mth args below meth c Q D ca A base b n0 z0 m (pc + 1) ls' st' h') : zGo p l e R s mth args below meth c Q D ca A base b n0 z0 m pc ls st h := by
  simp only [zs] at hz
  split at hz
  · rename_i y x st
    split at hz
    · rename_i hk
      simp only [Option.some.injEq, Prod.mk.injEq] at hz
      obtain ⟨rfl, rfl, rfl⟩ := hz
      intro H locs lsA hW hl hn h1 h2
      obtain ⟨hx, hb, hml, hown, hts, hnw, hK, hini, hA, hbase, hlk, hfr, hlo⟩ := id CX
      have h3 := List.forall_mem_cons.mp h2
      have h4 := List.forall_mem_cons.mp h3.2
      have k2 := kk H locs lsA hW hl hn h1 (List.forall_mem_cons.mpr ⟨hk, h4.2⟩)
      refine lv_imul hx hb hd ?_
      rw [List.map_cons, show ztv base b (.inl (x * y)) = .int (Int32.ofInt x * Int32.ofInt y) from congrArg Value.int (Int32.ofInt_mul _ _)] at k2
      exact k2
    · cases hz
  · cases hz
theorem zi_iand (CX : zCx p R s mth args meth c D ca A base n0 m) (hd : decode (zby m) pc = .ok (.iand, 1)) (hz : zs ext .iand ls st h = some (ls', st', h')) (kk : zGo p l e R s mth args below meth c Q D ca A base b n0 z0 m (pc + 1) ls' st' h') : zGo p l e R s mth args below meth c Q D ca A base b n0 z0 m pc ls st h := by
  simp only [zs] at hz
  split at hz
  · rename_i y x st
    simp only [Option.some.injEq, Prod.mk.injEq] at hz
    obtain ⟨rfl, rfl, rfl⟩ := hz
    intro H locs lsA hW hl hn h1 h2
    obtain ⟨hx, hb, hml, hown, hts, hnw, hK, hini, hA, hbase, hlk, hfr, hlo⟩ := id CX
    have h3 := List.forall_mem_cons.mp h2
    have h4 := List.forall_mem_cons.mp h3.2
    have k2 := kk H locs lsA hW hl hn h1 (List.forall_mem_cons.mpr ⟨zI_toInt _, h4.2⟩)
    refine lv_iand hx hb hd ?_
    rw [List.map_cons, show ztv base b (.inl (zand x y)) = .int (Int32.ofInt x &&& Int32.ofInt y) from congrArg Value.int (zand_of _ _)] at k2
    exact k2
  · cases hz
theorem zi_ior (CX : zCx p R s mth args meth c D ca A base n0 m) (hd : decode (zby m) pc = .ok (.ior, 1)) (hz : zs ext .ior ls st h = some (ls', st', h')) (kk : zGo p l e R s mth args below meth c Q D ca A base b n0 z0 m (pc + 1) ls' st' h') : zGo p l e R s mth args below meth c Q D ca A base b n0 z0 m pc ls st h := by
  simp only [zs] at hz
  split at hz
  · rename_i y x st
    simp only [Option.some.injEq, Prod.mk.injEq] at hz
    obtain ⟨rfl, rfl, rfl⟩ := hz
    intro H locs lsA hW hl hn h1 h2
    obtain ⟨hx, hb, hml, hown, hts, hnw, hK, hini, hA, hbase, hlk, hfr, hlo⟩ := id CX
    have h3 := List.forall_mem_cons.mp h2
    have h4 := List.forall_mem_cons.mp h3.2
    have k2 := kk H locs lsA hW hl hn h1 (List.forall_mem_cons.mpr ⟨zI_toInt _, h4.2⟩)
    refine lv_ior hx hb hd ?_
    rw [List.map_cons, show ztv base b (.inl (zor x y)) = .int (Int32.ofInt x ||| Int32.ofInt y) from congrArg Value.int (zor_of _ _)] at k2
    exact k2
  · cases hz
theorem zi_ixor (CX : zCx p R s mth args meth c D ca A base n0 m) (hd : decode (zby m) pc = .ok (.ixor, 1)) (hz : zs ext .ixor ls st h = some (ls', st', h')) (kk : zGo p l e R s mth args below meth c Q D ca A base b n0 z0 m (pc + 1) ls' st' h') : zGo p l e R s mth args below meth c Q D ca A base b n0 z0 m pc ls st h := by
  simp only [zs] at hz
  split at hz
  · rename_i y x st
    simp only [Option.some.injEq, Prod.mk.injEq] at hz
    obtain ⟨rfl, rfl, rfl⟩ := hz
    intro H locs lsA hW hl hn h1 h2
    obtain ⟨hx, hb, hml, hown, hts, hnw, hK, hini, hA, hbase, hlk, hfr, hlo⟩ := id CX
    have h3 := List.forall_mem_cons.mp h2
    have h4 := List.forall_mem_cons.mp h3.2
    have k2 := kk H locs lsA hW hl hn h1 (List.forall_mem_cons.mpr ⟨zI_toInt _, h4.2⟩)
    refine lv_ixor hx hb hd ?_
    rw [List.map_cons, show ztv base b (.inl (zxor x y)) = .int (Int32.ofInt x ^^^ Int32.ofInt y) from congrArg Value.int (zxor_of _ _)] at k2
    exact k2
  · cases hz
theorem zi_ishl (CX : zCx p R s mth args meth c D ca A base n0 m) (hd : decode (zby m) pc = .ok (.ishl, 1)) (hz : zs ext .ishl ls st h = some (ls', st', h')) (kk : zGo p l e R s mth args below meth c Q D ca A base b n0 z0 m (pc + 1) ls' st' h') : zGo p l e R s mth args below meth c Q D ca A base b n0 z0 m pc ls st h := by
  simp only [zs] at hz
  split at hz
  · rename_i y x st
    simp only [Option.some.injEq, Prod.mk.injEq] at hz
    obtain ⟨rfl, rfl, rfl⟩ := hz
    intro H locs lsA hW hl hn h1 h2
    obtain ⟨hx, hb, hml, hown, hts, hnw, hK, hini, hA, hbase, hlk, hfr, hlo⟩ := id CX
    have h3 := List.forall_mem_cons.mp h2
    have h4 := List.forall_mem_cons.mp h3.2
    have k2 := kk H locs lsA hW hl hn h1 (List.forall_mem_cons.mpr ⟨zI_toInt _, h4.2⟩)
    refine lv_ishl hx hb hd ?_
    rw [List.map_cons, show ztv base b (.inl (zshl x y)) = .int (Int32.ofInt x <<< (Int32.ofInt y &&& 31)) from congrArg Value.int (zshl_of _ _)] at k2
    exact k2
  · cases hz
theorem zi_ishr (CX : zCx p R s mth args meth c D ca A base n0 m) (hd : decode (zby m) pc = .ok (.ishr, 1)) (hz : zs ext .ishr ls st h = some (ls', st', h')) (kk : zGo p l e R s mth args below meth c Q D ca A base b n0 z0 m (pc + 1) ls' st' h') : zGo p l e R s mth args below meth c Q D ca A base b n0 z0 m pc ls st h := by
  simp only [zs] at hz
  split at hz
  · rename_i y x st
    simp only [Option.some.injEq, Prod.mk.injEq] at hz
    obtain ⟨rfl, rfl, rfl⟩ := hz
    intro H locs lsA hW hl hn h1 h2
    obtain ⟨hx, hb, hml, hown, hts, hnw, hK, hini, hA, hbase, hlk, hfr, hlo⟩ := id CX
    have h3 := List.forall_mem_cons.mp h2
    have h4 := List.forall_mem_cons.mp h3.2
    have k2 := kk H locs lsA hW hl hn h1 (List.forall_mem_cons.mpr ⟨zI_toInt _, h4.2⟩)
    refine lv_ishr hx hb hd ?_
    rw [List.map_cons, show ztv base b (.inl (zshr x y)) = .int (Int32.ofInt x >>> (Int32.ofInt y &&& 31)) from congrArg Value.int (zshr_of _ _)] at k2
    exact k2
  · cases hz
theorem zi_idiv (CX : zCx p R s mth args meth c D ca A base n0 m) (hd : decode (zby m) pc = .ok (.idiv, 1)) (hz : zs ext .idiv ls st h = some (ls', st', h')) (kk : zGo p l e R s mth args below meth c Q D ca A base b n0 z0 m (pc + 1) ls' st' h') : zGo p l e R s mth args below meth c Q D ca A base b n0 z0 m pc ls st h := by
  simp only [zs] at hz
  split at hz
  · rename_i y x st
    split at hz
    · rename_i hk
      simp only [Option.some.injEq, Prod.mk.injEq] at hz
      obtain ⟨rfl, rfl, rfl⟩ := hz
      intro H locs lsA hW hl hn h1 h2
      obtain ⟨hx, hb, hml, hown, hts, hnw, hK, hini, hA, hbase, hlk, hfr, hlo⟩ := id CX
      have h3 := List.forall_mem_cons.mp h2
      have h4 := List.forall_mem_cons.mp h3.2
      have k2 := kk H locs lsA hW hl hn h1 (List.forall_mem_cons.mpr ⟨hk.2, h4.2⟩)
      refine lv_idiv hx hb hd (z32_ne0 h3.1 hk.1) ?_
      rw [List.map_cons, show ztv base b (.inl (x.tdiv y)) = .int (Int32.ofInt x / Int32.ofInt y) from congrArg Value.int (z32_div h4.1 h3.1)] at k2
      exact k2
    · cases hz
  · cases hz
theorem zi_irem (CX : zCx p R s mth args meth c D ca A base n0 m) (hd : decode (zby m) pc = .ok (.irem, 1)) (hz : zs ext .irem ls st h = some (ls', st', h')) (kk : zGo p l e R s mth args below meth c Q D ca A base b n0 z0 m (pc + 1) ls' st' h') : zGo p l e R s mth args below meth c Q D ca A base b n0 z0 m pc ls st h := by
  simp only [zs] at hz
  split at hz
  · rename_i y x st
    split at hz
    · rename_i hk
      simp only [Option.some.injEq, Prod.mk.injEq] at hz
      obtain ⟨rfl, rfl, rfl⟩ := hz
      intro H locs lsA hW hl hn h1 h2
      obtain ⟨hx, hb, hml, hown, hts, hnw, hK, hini, hA, hbase, hlk, hfr, hlo⟩ := id CX
      have h3 := List.forall_mem_cons.mp h2
      have h4 := List.forall_mem_cons.mp h3.2
      have k2 := kk H locs lsA hW hl hn h1 (List.forall_mem_cons.mpr ⟨hk.2.2, h4.2⟩)
      refine lv_irem hx hb hd (z32_ne0 h3.1 hk.1) ?_
      rw [List.map_cons, show ztv base b (.inl (x.tmod y)) = .int (Int32.ofInt x - Int32.ofInt x / Int32.ofInt y * Int32.ofInt y) from congrArg Value.int (z32_mod h4.1 h3.1)] at k2
      exact k2
    · cases hz
  · cases hz
theorem zi_ineg (CX : zCx p R s mth args meth c D ca A base n0 m) (hd : decode (zby m) pc = .ok (.ineg, 1)) (hz : zs ext .ineg ls st h = some (ls', st', h')) (kk : zGo p l e R s mth args below meth c Q D ca A base b n0 z0 m (pc + 1) ls' st' h') : zGo p l e R s mth args below meth c Q D ca A base b n0 z0 m pc ls st h := by
  simp only [zs] at hz
  split at hz
  · rename_i x st
    split at hz
    · rename_i hk
      simp only [Option.some.injEq, Prod.mk.injEq] at hz
      obtain ⟨rfl, rfl, rfl⟩ := hz
      intro H locs lsA hW hl hn h1 h2
      obtain ⟨hx, hb, hml, hown, hts, hnw, hK, hini, hA, hbase, hlk, hfr, hlo⟩ := id CX
      have h3 := List.forall_mem_cons.mp h2
      have k2 := kk H locs lsA hW hl hn h1 (List.forall_mem_cons.mpr ⟨hk, h3.2⟩)
      refine lv_ineg hx hb hd ?_
      rw [List.map_cons, show ztv base b (.inl (-x)) = .int (-Int32.ofInt x) from congrArg Value.int (Int32.ofInt_neg _)] at k2
      exact k2
    · cases hz
  · cases hz
end ZR
