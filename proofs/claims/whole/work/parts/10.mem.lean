/-! the small machine's memory in the real one: fields, arrays, making, natives -/
section ZM
variable {p : Program} {l : Launch} {e : Env} {R : Room} {s : State} {mth : MethodId} {args : Array Value} {below : List Frame} {meth : Method} {c : Code} {Q : State → Prop} {D : va_G} {ca : zC3} {A : Nat → Prop} {base b n0 z0 m pc : Nat} {ext : zE} {ls st ls' st' : List zV} {h h' : zH}
theorem zo_lt {o : Nat} {kd : Nat × Nat} (hle : h.1.length ≤ 1000000) (ho : h.1[o]? = some kd) : zad base b o = base + o := zad_eq (by have := (List.getElem?_eq_some_iff.mp ho).1; omega)
theorem zfs_get {ci o k : Nat} (hk : k < zcN ci) : ((List.range (zcN ci)).map (zfv base b ci h o))[k]? = some (zfv base b ci h o k) := by simp [hk]
theorem zfs_set {ci o k : Nat} {v : Value} (hk : k < zcN ci) (hv : v = zfv base b ci h' o k) (hr : ∀ j, j ≠ k → zfv base b ci h' o j = zfv base b ci h o j) : ((List.range (zcN ci)).map (zfv base b ci h o)).set k v = (List.range (zcN ci)).map (zfv base b ci h' o) := by
  apply List.ext_getElem?
  intro j
  by_cases hj : j = k
  · subst hj
    rw [List.getElem?_set_self (by simpa using hk), zfs_get hk, hv]
  · rw [List.getElem?_set_ne (Ne.symm hj)]
    by_cases hl : j < zcN ci
    · rw [zfs_get hl, zfs_get hl, hr j hj]
    · rw [List.getElem?_eq_none (by simpa using hl), List.getElem?_eq_none (by simpa using hl)]
theorem zi_getI {x ci k : Nat} (CX : zCx p R s mth args meth c D ca A base n0 m) (hd : decode (zby m) pc = .ok (.getfield x, 3)) (hf : zfl.lookup (zow m, x) = some (ci, k)) (hci : ci < 8) (hk : k < zcN ci) (hty : zcy ci k = .int) (hz : zs ext (.invokeinterface ci k) ls st h = some (ls', st', h')) (kk : zGo p l e R s mth args below meth c Q D ca A base b n0 z0 m (pc + 3) ls' st' h') : zGo p l e R s mth args below meth c Q D ca A base b n0 z0 m pc ls st h := by
  simp only [zs] at hz
  split at hz
  · rename_i o st
    split at hz
    · rename_i ho
      simp only [Option.some.injEq, Prod.mk.injEq] at hz
      obtain ⟨rfl, rfl, rfl⟩ := hz
      intro H locs lsA hW hl hn h1 h2
      obtain ⟨hx, hb, hml, hown, hts, hnw, hK, hini, hA, hbase, hlk, hfr, hlo⟩ := id CX
      obtain ⟨hP, hD, hS, hle, hzi, hn0, hz0⟩ := id hW
      have k2 := kk H locs lsA hW hl hn h1 (List.forall_mem_cons.mpr ⟨hzi o k, (List.forall_mem_cons.mp h2).2⟩)
      rw [List.map_cons, show ztv base b (.inr (some o)) = .ref (base + o) from congrArg Value.ref (zo_lt hle ho)]
      refine va_get (ref := zcn ci) hx hb hts (zg_us hci) hown hK hP o (ztw_get ho) (zg_cls hci) k hk (hts _ (zg_fl (z_lookup hf))) (fun x hx2 => by rw [zg_dc hci k hk] at hx2; exact hx2) (v := .int (Int32.ofInt (h.2.1 o k))) ?_ hd k2
      rw [zfs_get hk, zfv, if_pos hty]
    · cases hz
  · cases hz
theorem zi_getR {x ci k : Nat} (CX : zCx p R s mth args meth c D ca A base n0 m) (hd : decode (zby m) pc = .ok (.getfield x, 3)) (hf : zfl.lookup (zow m, x) = some (ci, k)) (hci : ci < 8) (hk : k < zcN ci) (hk6 : k < 64) (hty : zcy ci k ≠ .int) (hz : zs ext (.getstatic (64 * ci + k)) ls st h = some (ls', st', h')) (kk : zGo p l e R s mth args below meth c Q D ca A base b n0 z0 m (pc + 3) ls' st' h') : zGo p l e R s mth args below meth c Q D ca A base b n0 z0 m pc ls st h := by
  simp only [zs, show (64 * ci + k) / 64 = ci by omega, show (64 * ci + k) % 64 = k by omega] at hz
  split at hz
  · rename_i o st
    split at hz
    · rename_i ho
      split at hz
      · rename_i q hq
        simp only [Option.some.injEq, Prod.mk.injEq] at hz
        obtain ⟨rfl, rfl, rfl⟩ := hz
        intro H locs lsA hW hl hn h1 h2
        obtain ⟨hx, hb, hml, hown, hts, hnw, hK, hini, hA, hbase, hlk, hfr, hlo⟩ := id CX
        obtain ⟨hP, hD, hS, hle, hzi, hn0, hz0⟩ := id hW
        have k2 := kk H locs lsA hW hl hn h1 (List.forall_mem_cons.mpr ⟨trivial, (List.forall_mem_cons.mp h2).2⟩)
        rw [List.map_cons, show ztv base b (.inr (some o)) = .ref (base + o) from congrArg Value.ref (zo_lt hle ho)]
        refine va_get (ref := zcn ci) hx hb hts (zg_us hci) hown hK hP o (ztw_get ho) (zg_cls hci) k hk (hts _ (zg_fl (z_lookup hf))) (fun x hx2 => by rw [zg_dc hci k hk] at hx2; exact hx2) (v := .ref (zad base b q)) ?_ hd k2
        rw [zfs_get hk, zfv, if_neg hty, hq]
        rfl
      · cases hz
    · cases hz
  · cases hz
theorem zty_ref {ci k : Nat} (hci : ci < 8) (hk : k < zcN ci) (hty : zcy ci k ≠ .int) : (zcy ci k).isReference = true := by
  have h0 : (List.range 8).all (fun ci => (List.range (zcN ci)).all (fun k => decide (zcy ci k = .int) || (zcy ci k).isReference)) = true := by decide +kernel
  have h1 := List.all_eq_true.mp (List.all_eq_true.mp h0 ci (List.mem_range.mpr hci)) k (List.mem_range.mpr hk)
  simp only [Bool.or_eq_true, decide_eq_true_eq] at h1
  exact h1.resolve_left hty
theorem zty_nar {ty : FieldType} {a : Nat} (h : ty.isReference = true) : narrow ty (.ref a) = .ref a ∧ fits ty (.ref a) = true := by
  cases ty <;> first | exact ⟨rfl, rfl⟩ | cases h
/-- a field is written -/
theorem zi_putV {x ci k o : Nat} {v : Value} (CX : zCx p R s mth args meth c D ca A base n0 m) (hd : decode (zby m) pc = .ok (.putfield x, 3)) (hf : zfl.lookup (zow m, x) = some (ci, k)) (hci : ci < 8) (hk : k < zcN ci) (hfin : (zct ci k).2.2.2 = false ∨ (zini m = true ∧ ci = zow m)) (ho : h.1[o]? = some (ci + 3, 0))
    (hnar : narrow (zcy ci k) v = v) (hfit : fits (zcy ci k) v = true) (hh : h'.1 = h.1) (hv : v = zfv base b ci h' o k) (hr : ∀ j, j ≠ k → zfv base b ci h' o j = zfv base b ci h o j) (g1 : ∀ j, j ≠ o → h'.2.1 j = h.2.1 j) (g2 : ∀ j, j ≠ o → h'.2.2 j = h.2.2 j)
    {H : Heap} {locs : List Loc} {lsA : Array Slot} {vs : List Value} (hW : zWd D ca s A base b n0 z0 h H locs) (hzi2 : ∀ o j, zI (h'.2.1 o j))
    (kk : ∀ (H1 : Heap) (locs1 : List Loc), zWd D ca s A base b n0 z0 h' H1 locs1 → W p l e R s mth args below meth c H1 locs1 (h.1.length - n0) (zsl h.1 - z0) Q (F0 mth (pc + 3) lsA vs)) :
    W p l e R s mth args below meth c H locs (h.1.length - n0) (zsl h.1 - z0) Q (F0 mth pc lsA (v :: .ref (base + o) :: vs)) := by
  obtain ⟨hx, hb, hml, hown, hts, hnw, hK, hini, hA, hbase, hlk, hfr, hlo⟩ := id CX
  obtain ⟨hP, hD, hS, hle, hzi, hn0, hz0⟩ := id hW
  have hset : (ztw ca base b h).set o (base + o, .inr (ci, ((List.range (zcN ci)).map (zfv base b ci h o)).set k v)) = ztw ca base b h' := by
    rw [zfs_set hk hv hr]
    exact ztw_set (kd := (ci + 3, 0)) hh ho g1 g2
  have k3 : ∀ (H1 : Heap) (locs1 : List Loc), va_P D vwCl ((ztw ca base b h).set o (base + o, .inr (ci, ((List.range (zcN ci)).map (zfv base b ci h o)).set k v))) H1 → va_D A ((ztw ca base b h).set o (base + o, .inr (ci, ((List.range (zcN ci)).map (zfv base b ci h o)).set k v))) → va_S A s.heap H1 locs1 → W p l e R s mth args below meth c H1 locs1 (h.1.length - n0) (zsl h.1 - z0) Q (F0 mth (pc + 3) lsA vs) := by
    intro H1 locs1 a1 a2 a3
    rw [hset] at a1 a2
    exact kk H1 locs1 ⟨a1, a2, a3, by rw [hh]; exact hle, hzi2, by rw [hh]; exact hn0, by rw [hh]; exact hz0⟩
  by_cases hff : (zct ci k).2.2.2 = false
  · exact va_put (ref := zcn ci) hx hb hts (zg_us hci) (zcy ci) (zg_ty hci) (zg_nm hci) hown hK hP hD hS o (ztw_get ho) (zg_cls hci) k hk (hts _ (zg_fl (z_lookup hf))) (fun x hx2 => by rw [zg_dc hci k hk] at hx2; exact hx2) hff (zg_ty hci k hk) hnar hfit (by simpa using hk) hd k3
  · rcases hfin with hfin | ⟨hi, hco⟩
    · exact absurd hfin hff
    · have hf2 : (zct ci k).2.2.2 = true := by simpa using hff
      exact va_putF (ref := zcn ci) hx hb hts (zg_us hci) (zcy ci) (zg_ty hci) (zg_nm hci) hown hK hP hD hS o (ztw_get ho) (zg_cls hci) k hk (hts _ (zg_fl (z_lookup hf))) (fun x hx2 => by rw [zg_dc hci k hk] at hx2; exact hx2) hf2 (hini hi) (by rw [zg_dc hci k hk, hco]) (zg_ty hci k hk) hnar hfit (by simpa using hk) hd k3
theorem zi_putI {x ci k : Nat} (CX : zCx p R s mth args meth c D ca A base n0 m) (hd : decode (zby m) pc = .ok (.putfield x, 3)) (hf : zfl.lookup (zow m, x) = some (ci, k)) (hci : ci < 8) (hk : k < zcN ci) (hfin : (zct ci k).2.2.2 = false ∨ (zini m = true ∧ ci = zow m)) (hty : zcy ci k = .int) (hz : zs ext (.multianewarray ci k) ls st h = some (ls', st', h')) (kk : zGo p l e R s mth args below meth c Q D ca A base b n0 z0 m (pc + 3) ls' st' h') : zGo p l e R s mth args below meth c Q D ca A base b n0 z0 m pc ls st h := by
  simp only [zs] at hz
  split at hz
  · rename_i v o st
    split at hz
    · rename_i ho
      simp only [Option.some.injEq, Prod.mk.injEq] at hz
      obtain ⟨rfl, rfl, rfl⟩ := hz
      intro H locs lsA hW hl hn h1 h2
      obtain ⟨hx, hb, hml, hown, hts, hnw, hK, hini, hA, hbase, hlk, hfr, hlo⟩ := id CX
      obtain ⟨hP, hD, hS, hle, hzi, hn0, hz0⟩ := id hW
      have h3 := List.forall_mem_cons.mp h2
      have h4 := List.forall_mem_cons.mp h3.2
      rw [List.map_cons, List.map_cons, show ztv base b (.inr (some o)) = .ref (base + o) from congrArg Value.ref (zo_lt hle ho)]
      have hzi2 : ∀ o' j, zI (zu h.2.1 o k v o' j) := by
        intro o' j
        unfold zu
        split
        · dsimp only
          split
          · exact h3.1
          · exact hzi _ _
        · exact hzi _ _
      have hr : ∀ j : Nat, j ≠ k → zfv base b ci (h.1, zu h.2.1 o k v, h.2.2) o j = zfv base b ci h o j := by
        intro j hj
        have : (j : Int) ≠ k := by omega
        simp [zfv, zu, this]
      exact zi_putV (h' := (h.1, zu h.2.1 o k v, h.2.2)) (v := .int (Int32.ofInt v)) CX hd hf hci hk hfin ho (by rw [hty]; rfl) (by rw [hty]; rfl) rfl (by simp [zfv, hty, zu]) hr (by intro j hj; simp [zu, hj]) (fun _ _ => rfl) hW hzi2
        (fun H1 locs1 w => kk H1 locs1 lsA w hl hn h1 h4.2)
    · cases hz
  · cases hz
theorem zi_putR {x ci k : Nat} (CX : zCx p R s mth args meth c D ca A base n0 m) (hd : decode (zby m) pc = .ok (.putfield x, 3)) (hf : zfl.lookup (zow m, x) = some (ci, k)) (hci : ci < 8) (hk : k < zcN ci) (hk6 : k < 64) (hfin : (zct ci k).2.2.2 = false ∨ (zini m = true ∧ ci = zow m)) (hty : zcy ci k ≠ .int) (hz : zs ext (.putstatic (64 * ci + k)) ls st h = some (ls', st', h')) (kk : zGo p l e R s mth args below meth c Q D ca A base b n0 z0 m (pc + 3) ls' st' h') : zGo p l e R s mth args below meth c Q D ca A base b n0 z0 m pc ls st h := by
  simp only [zs, show (64 * ci + k) / 64 = ci by omega, show (64 * ci + k) % 64 = k by omega] at hz
  split at hz
  · rename_i v o st
    split at hz
    · rename_i ho
      simp only [Option.some.injEq, Prod.mk.injEq] at hz
      obtain ⟨rfl, rfl, rfl⟩ := hz
      intro H locs lsA hW hl hn h1 h2
      obtain ⟨hx, hb, hml, hown, hts, hnw, hK, hini, hA, hbase, hlk, hfr, hlo⟩ := id CX
      obtain ⟨hP, hD, hS, hle, hzi, hn0, hz0⟩ := id hW
      have h3 := List.forall_mem_cons.mp h2
      have h4 := List.forall_mem_cons.mp h3.2
      rw [List.map_cons, List.map_cons, show ztv base b (.inr (some o)) = .ref (base + o) from congrArg Value.ref (zo_lt hle ho)]
      have hn2 := zty_nar (a := zad base b v) (zty_ref hci hk hty)
      have hr : ∀ j : Nat, j ≠ k → zfv base b ci (h.1, h.2.1, zuR h.2.2 o k (some v)) o j = zfv base b ci h o j := by
        intro j hj
        have : (j : Int) ≠ k := by omega
        simp [zfv, zuR, this]
      exact zi_putV (h' := (h.1, h.2.1, zuR h.2.2 o k (some v))) (v := .ref (zad base b v)) CX hd hf hci hk hfin ho hn2.1 hn2.2 rfl (by simp [zfv, hty, zuR, va_rf]) hr (fun _ _ => rfl) (by intro j hj; simp [zuR, hj]) hW hzi
        (fun H1 locs1 w => kk H1 locs1 lsA w hl hn h1 h4.2)
    · cases hz
  · cases hz
theorem zi_iaload (CX : zCx p R s mth args meth c D ca A base n0 m) (XT : zXt ext s A b) (hd : decode (zby m) pc = .ok (.iaload, 1)) (hz : zs ext .iaload ls st h = some (ls', st', h')) (kk : zGo p l e R s mth args below meth c Q D ca A base b n0 z0 m (pc + 1) ls' st' h') : zGo p l e R s mth args below meth c Q D ca A base b n0 z0 m pc ls st h := by
  simp only [zs] at hz
  split at hz
  · rename_i i o st
    split at hz
    · rename_i n ho
      split at hz
      · rename_i hi
        simp only [Option.some.injEq, Prod.mk.injEq] at hz
        obtain ⟨rfl, rfl, rfl⟩ := hz
        intro H locs lsA hW hl hn h1 h2
        obtain ⟨hx, hb, hml, hown, hts, hnw, hK, hini, hA, hbase, hlk, hfr, hlo⟩ := id CX
        obtain ⟨hP, hD, hS, hle, hzi, hn0, hz0⟩ := id hW
        have h3 := List.forall_mem_cons.mp h2
        have h4 := List.forall_mem_cons.mp h3.2
        have k2 := kk H locs lsA hW hl hn h1 (List.forall_mem_cons.mpr ⟨hzi o i, h4.2⟩)
        rw [List.map_cons, List.map_cons, show ztv base b (.inr (some o)) = .ref (base + o) from congrArg Value.ref (zo_lt hle ho)]
        refine va_iald hx hb hK hP o 0 (ztw_get ho) rfl (z32_in h3.1 hi.1 hi.2) hd ?_
        rw [z32_clamp h3.1, show ((i.toNat : Nat) : Int) = i by omega]
        exact k2
      · cases hz
    · cases hz
    · rename_i ho
      split at hz
      · rename_i n xs hext
        split at hz
        · rename_i hi
          simp only [Option.some.injEq, Prod.mk.injEq] at hz
          obtain ⟨rfl, rfl, rfl⟩ := hz
          intro H locs lsA hW hl hn h1 h2
          obtain ⟨hx, hb, hml, hown, hts, hnw, hK, hini, hA, hbase, hlk, hfr, hlo⟩ := id CX
          obtain ⟨hP, hD, hS, hle, hzi, hn0, hz0⟩ := id hW
          obtain ⟨hX, hbl, hbA, hxs⟩ := XT
          have h3 := List.forall_mem_cons.mp h2
          have h4 := List.forall_mem_cons.mp h3.2
          have k2 := kk H locs lsA hW hl hn h1 (List.forall_mem_cons.mpr ⟨hxs i, h4.2⟩)
          rw [List.map_cons, List.map_cons, show ztv base b (.inr (some o)) = .ref b from congrArg Value.ref (if_pos hi.1)]
          refine va_sld hx hb hX hbl hbA hS (z32_in h3.1 hi.2.1 hi.2.2) hd ?_
          rw [z32_clamp h3.1, show ((i.toNat : Nat) : Int) = i by omega]
          exact k2
        · cases hz
      · cases hz
  · cases hz
theorem zi_arraylength (CX : zCx p R s mth args meth c D ca A base n0 m) (XT : zXt ext s A b) (hd : decode (zby m) pc = .ok (.arraylength, 1)) (hz : zs ext .arraylength ls st h = some (ls', st', h')) (kk : zGo p l e R s mth args below meth c Q D ca A base b n0 z0 m (pc + 1) ls' st' h') : zGo p l e R s mth args below meth c Q D ca A base b n0 z0 m pc ls st h := by
  simp only [zs] at hz
  split at hz
  · rename_i o st
    split at hz
    · rename_i n ho
      split at hz
      · rename_i hi
        simp only [Option.some.injEq, Prod.mk.injEq] at hz
        obtain ⟨rfl, rfl, rfl⟩ := hz
        intro H locs lsA hW hl hn h1 h2
        obtain ⟨hx, hb, hml, hown, hts, hnw, hK, hini, hA, hbase, hlk, hfr, hlo⟩ := id CX
        obtain ⟨hP, hD, hS, hle, hzi, hn0, hz0⟩ := id hW
        have h3 := List.forall_mem_cons.mp h2
        have k2 := kk H locs lsA hW hl hn h1 (List.forall_mem_cons.mpr ⟨hi, h3.2⟩)
        rw [List.map_cons, show ztv base b (.inr (some o)) = .ref (base + o) from congrArg Value.ref (zo_lt hle ho)]
        refine va_alen hx hb hK hP o 0 (ztw_get ho) rfl rfl hd ?_
        exact k2
      · cases hz
    · cases hz
    · rename_i ho
      split at hz
      · rename_i n xs hext
        split at hz
        · rename_i hi
          simp only [Option.some.injEq, Prod.mk.injEq] at hz
          obtain ⟨rfl, rfl, rfl⟩ := hz
          intro H locs lsA hW hl hn h1 h2
          obtain ⟨hx, hb, hml, hown, hts, hnw, hK, hini, hA, hbase, hlk, hfr, hlo⟩ := id CX
          obtain ⟨hP, hD, hS, hle, hzi, hn0, hz0⟩ := id hW
          obtain ⟨hX, hbl, hbA, hxs⟩ := XT
          have h3 := List.forall_mem_cons.mp h2
          have k2 := kk H locs lsA hW hl hn h1 (List.forall_mem_cons.mpr ⟨hi.2, h3.2⟩)
          rw [List.map_cons, show ztv base b (.inr (some o)) = .ref b from congrArg Value.ref (if_pos hi.1)]
          refine va_slen hx hb hX hbl hbA hS hd ?_
          exact k2
        · cases hz
      · cases hz
  · cases hz
/-- a number is put into an array -/
theorem zst_world {o : Nat} {kd : Nat × Nat} {i v : Int} {e1 : va_E} {H1 : Heap} {locs1 : List Loc} {H : Heap} {locs : List Loc} (hW : zWd D ca s A base b n0 z0 h H locs) (ho : h.1[o]? = some kd) (hv : zI v) (he : e1 = zcell ca base b (h.1, zu h.2.1 o i v, h.2.2) o kd)
    (a1 : va_P D vwCl ((ztw ca base b h).set o (base + o, e1)) H1) (a2 : va_D A ((ztw ca base b h).set o (base + o, e1))) (a3 : va_S A s.heap H1 locs1) : zWd D ca s A base b n0 z0 (h.1, zu h.2.1 o i v, h.2.2) H1 locs1 := by
  obtain ⟨hP, hD, hS, hle, hzi, hn0, hz0⟩ := hW
  subst he
  rw [ztw_set (h := h) (h' := (h.1, zu h.2.1 o i v, h.2.2)) (kd := kd) rfl ho (by intro j hj; simp [zu, hj]) (fun _ _ => rfl)] at a1 a2
  refine ⟨a1, a2, a3, hle, ?_, hn0, hz0⟩
  intro o' j
  show zI (zu h.2.1 o i v o' j)
  unfold zu
  split
  · dsimp only
    split
    · exact hv
    · exact hzi _ _
  · exact hzi _ _
theorem zi_iastore (CX : zCx p R s mth args meth c D ca A base n0 m) (hd : decode (zby m) pc = .ok (.iastore, 1)) (hz : zs ext .iastore ls st h = some (ls', st', h')) (kk : zGo p l e R s mth args below meth c Q D ca A base b n0 z0 m (pc + 1) ls' st' h') : zGo p l e R s mth args below meth c Q D ca A base b n0 z0 m pc ls st h := by
  simp only [zs] at hz
  split at hz
  · rename_i v i o st
    split at hz
    · rename_i n ho
      split at hz
      · rename_i hi
        simp only [Option.some.injEq, Prod.mk.injEq] at hz
        obtain ⟨rfl, rfl, rfl⟩ := hz
        intro H locs lsA hW hl hn h1 h2
        obtain ⟨hx, hb, hml, hown, hts, hnw, hK, hini, hA, hbase, hlk, hfr, hlo⟩ := id CX
        obtain ⟨hP, hD, hS, hle, hzi, hn0, hz0⟩ := id hW
        have h3 := List.forall_mem_cons.mp h2
        have h4 := List.forall_mem_cons.mp h3.2
        have h5 := List.forall_mem_cons.mp h4.2
        rw [List.map_cons, List.map_cons, List.map_cons, show ztv base b (.inr (some o)) = .ref (base + o) from congrArg Value.ref (zo_lt hle ho)]
        refine va_iast hx hb hK hP hD hS o 0 (ztw_get ho) rfl (z32_in h4.1 hi.1 hi.2) hd ?_
        intro H1 locs1 a1 a2 a3
        refine kk H1 locs1 lsA (zst_world (kd := (0, n)) hW ho h3.1 ?_ a1 a2 a3) hl hn h1 h5.2
        rw [z32_clamp h4.1]
        unfold zcell
        congr 3
        refine congrArg Sum.inl ?_
        funext j
        by_cases hj : j = i.toNat
        · subst hj
          have e : ((i.toNat : Nat) : Int) = i := by omega
          simp only [upd, zu, e, ↓reduceIte]
        · have : (j : Int) ≠ i := by omega
          simp [upd, zu, hj, this]
      · cases hz
    · cases hz
  · cases hz
theorem zi_baload (CX : zCx p R s mth args meth c D ca A base n0 m) (hd : decode (zby m) pc = .ok (.baload, 1)) (hz : zs ext .baload ls st h = some (ls', st', h')) (kk : zGo p l e R s mth args below meth c Q D ca A base b n0 z0 m (pc + 1) ls' st' h') : zGo p l e R s mth args below meth c Q D ca A base b n0 z0 m pc ls st h := by
  simp only [zs] at hz
  split at hz
  · rename_i i o st
    split at hz
    · rename_i n ho
      split at hz
      · rename_i hi
        simp only [Option.some.injEq, Prod.mk.injEq] at hz
        obtain ⟨rfl, rfl, rfl⟩ := hz
        intro H locs lsA hW hl hn h1 h2
        obtain ⟨hx, hb, hml, hown, hts, hnw, hK, hini, hA, hbase, hlk, hfr, hlo⟩ := id CX
        obtain ⟨hP, hD, hS, hle, hzi, hn0, hz0⟩ := id hW
        have h3 := List.forall_mem_cons.mp h2
        have h4 := List.forall_mem_cons.mp h3.2
        have k2 := kk H locs lsA hW hl hn h1 (List.forall_mem_cons.mpr ⟨hzi o i, h4.2⟩)
        rw [List.map_cons, List.map_cons, show ztv base b (.inr (some o)) = .ref (base + o) from congrArg Value.ref (zo_lt hle ho)]
        refine va_zald hx hb hK hP o 1 (ztw_get ho) rfl (z32_in h3.1 hi.1 hi.2) hd ?_
        rw [z32_clamp h3.1, show ((i.toNat : Nat) : Int) = i by omega]
        exact k2
      · cases hz
    · cases hz
  · cases hz
theorem zi_bastore (CX : zCx p R s mth args meth c D ca A base n0 m) (hd : decode (zby m) pc = .ok (.bastore, 1)) (hz : zs ext .bastore ls st h = some (ls', st', h')) (kk : zGo p l e R s mth args below meth c Q D ca A base b n0 z0 m (pc + 1) ls' st' h') : zGo p l e R s mth args below meth c Q D ca A base b n0 z0 m pc ls st h := by
  simp only [zs] at hz
  split at hz
  · rename_i v i o st
    split at hz
    · rename_i n ho
      split at hz
      · rename_i hi
        simp only [Option.some.injEq, Prod.mk.injEq] at hz
        obtain ⟨rfl, rfl, rfl⟩ := hz
        intro H locs lsA hW hl hn h1 h2
        obtain ⟨hx, hb, hml, hown, hts, hnw, hK, hini, hA, hbase, hlk, hfr, hlo⟩ := id CX
        obtain ⟨hP, hD, hS, hle, hzi, hn0, hz0⟩ := id hW
        have h3 := List.forall_mem_cons.mp h2
        have h4 := List.forall_mem_cons.mp h3.2
        have h5 := List.forall_mem_cons.mp h4.2
        have hnar : vp_nar .boolean (Int32.ofInt v) = Int32.ofInt v := by
          rcases hi.2.2 with rfl | rfl <;> rfl
        rw [List.map_cons, List.map_cons, List.map_cons, show ztv base b (.inr (some o)) = .ref (base + o) from congrArg Value.ref (zo_lt hle ho)]
        refine va_zast hx hb hK hP hD hS o 1 (ztw_get ho) rfl (z32_in h4.1 hi.1 hi.2.1) hd ?_
        rw [hnar]
        intro H1 locs1 a1 a2 a3
        refine kk H1 locs1 lsA (zst_world (kd := (1, n)) hW ho h3.1 ?_ a1 a2 a3) hl hn h1 h5.2
        rw [z32_clamp h4.1]
        unfold zcell
        congr 3
        refine congrArg Sum.inl ?_
        funext j
        by_cases hj : j = i.toNat
        · subst hj
          have e : ((i.toNat : Nat) : Int) = i := by omega
          simp only [upd, zu, e, ↓reduceIte]
        · have : (j : Int) ≠ i := by omega
          simp [upd, zu, hj, this]
      · cases hz
    · cases hz
  · cases hz
theorem zi_aaload (CX : zCx p R s mth args meth c D ca A base n0 m) (hd : decode (zby m) pc = .ok (.aaload, 1)) (hz : zs ext .aaload ls st h = some (ls', st', h')) (kk : zGo p l e R s mth args below meth c Q D ca A base b n0 z0 m (pc + 1) ls' st' h') : zGo p l e R s mth args below meth c Q D ca A base b n0 z0 m pc ls st h := by
  simp only [zs] at hz
  split at hz
  · rename_i i o st
    split at hz
    · rename_i n ho
      split at hz
      · rename_i hi
        split at hz
        · rename_i q hq
          simp only [Option.some.injEq, Prod.mk.injEq] at hz
          obtain ⟨rfl, rfl, rfl⟩ := hz
          intro H locs lsA hW hl hn h1 h2
          obtain ⟨hx, hb, hml, hown, hts, hnw, hK, hini, hA, hbase, hlk, hfr, hlo⟩ := id CX
          obtain ⟨hP, hD, hS, hle, hzi, hn0, hz0⟩ := id hW
          have h3 := List.forall_mem_cons.mp h2
          have h4 := List.forall_mem_cons.mp h3.2
          have k2 := kk H locs lsA hW hl hn h1 (List.forall_mem_cons.mpr ⟨trivial, h4.2⟩)
          rw [List.map_cons, List.map_cons, show ztv base b (.inr (some o)) = .ref (base + o) from congrArg Value.ref (zo_lt hle ho)]
          refine va_aldq hx hb hK hP o 2 (ztw_get ho) rfl (z32_in h3.1 hi.1 hi.2) hd ?_
          rw [z32_clamp h3.1, show ((i.toNat : Nat) : Int) = i by omega, hq]
          exact k2
        · cases hz
      · cases hz
    · cases hz
  · cases hz
theorem zi_aastore (CX : zCx p R s mth args meth c D ca A base n0 m) (hd : decode (zby m) pc = .ok (.aastore, 1)) (hz : zs ext .aastore ls st h = some (ls', st', h')) (kk : zGo p l e R s mth args below meth c Q D ca A base b n0 z0 m (pc + 1) ls' st' h') : zGo p l e R s mth args below meth c Q D ca A base b n0 z0 m pc ls st h := by
  simp only [zs] at hz
  split at hz
  · rename_i q i o st
    split at hz
    · rename_i n ho
      split at hz
      · rename_i hi
        simp only [Option.some.injEq, Prod.mk.injEq] at hz
        obtain ⟨rfl, rfl, rfl⟩ := hz
        intro H locs lsA hW hl hn h1 h2
        obtain ⟨hx, hb, hml, hown, hts, hnw, hK, hini, hA, hbase, hlk, hfr, hlo⟩ := id CX
        obtain ⟨hP, hD, hS, hle, hzi, hn0, hz0⟩ := id hW
        have h3 := List.forall_mem_cons.mp h2
        have h4 := List.forall_mem_cons.mp h3.2
        have h5 := List.forall_mem_cons.mp h4.2
        rw [List.map_cons, List.map_cons, List.map_cons, show ztv base b (.inr (some o)) = .ref (base + o) from congrArg Value.ref (zo_lt hle ho), show ztv base b (.inr (some q)) = .ref (base + q) from congrArg Value.ref (zo_lt hle hi.2.2)]
        refine va_astq hx hb hK hP hD hS o 2 q 5 (ztw_get ho) rfl (ztw_get hi.2.2) (zg_cls (by decide)) (z32_in h4.1 hi.1 hi.2.1) hd ?_
        intro H1 locs1 a1 a2 a3
        rw [z32_clamp h4.1] at a1 a2
        have he : (.inl (ca.2.2, n, .inr (.inr (.inr (.inr (va_up (fun (j : Nat) => (h.2.2 o j).map (zad base b)) i.toNat (some (base + q))))))) : va_E) = zcell ca base b (h.1, h.2.1, zuR h.2.2 o i (some q)) o (2, n) := by
          unfold zcell
          congr 6
          refine congrArg Sum.inr ?_
          funext j
          by_cases hj : j = i.toNat
          · subst hj
            have e : ((i.toNat : Nat) : Int) = i := by omega
            simp only [va_up, zuR, e, ↓reduceIte, Option.map_some, zo_lt (base := base) (b := b) hle hi.2.2]
          · have : (j : Int) ≠ i := by omega
            simp [va_up, zuR, hj, this]
        rw [he, ztw_set (h := h) (h' := (h.1, h.2.1, zuR h.2.2 o i (some q))) (kd := (2, n)) rfl ho (fun _ _ => rfl) (by intro j hj; simp [zuR, hj])] at a1 a2
        exact kk H1 locs1 lsA ⟨a1, a2, a3, hle, hzi, hn0, hz0⟩ hl hn h1 h5.2
      · cases hz
    · cases hz
  · cases hz
end ZM
