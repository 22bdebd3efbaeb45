/-! making objects, natives, branches -/
section ZN
variable {p : Program} {l : Launch} {e : Env} {R : Room} {s : State} {mth : MethodId} {args : Array Value} {below : List Frame} {meth : Method} {c : Code} {Q : State → Prop} {D : va_G} {ca : zC3} {A : Nat → Prop} {base b n0 z0 m pc : Nat} {ext : zE} {ls st ls' st' : List zV} {h h' : zH}
theorem zsize {T : State} {H : Heap} {locs : List Loc} {sl : Nat} (X : Stand p l e R s mth args below meth c T locs (h.1.length - n0) sl) (hT : T.heap = H) (hP : va_P D vwCl (ztw ca base b h) H) (hS : va_S A s.heap H locs) (hb : s.heap.size = base + n0) (hn : n0 ≤ h.1.length) : H.size = base + h.1.length := by
  have h1 := X.heapSize
  rw [hT] at h1
  have h2 := hS.1
  by_cases hq : h.1.length = n0
  · omega
  · have hk : h.1.length - 1 < h.1.length := by omega
    have h3 := (hP (h.1.length - 1) _ (ztw_get (List.getElem?_eq_getElem hk))).lt
    dsimp only at h3
    omega
theorem W_size {H : Heap} {locs : List Loc} {sl : Nat} {g : JFrame} (hP : va_P D vwCl (ztw ca base b h) H) (hS : va_S A s.heap H locs) (hb : s.heap.size = base + n0) (hn : n0 ≤ h.1.length) (k : H.size = base + h.1.length → W p l e R s mth args below meth c H locs (h.1.length - n0) sl Q g) : W p l e R s mth args below meth c H locs (h.1.length - n0) sl Q g :=
  fun T hT X => k (zsize X hT hP hS hb hn) T hT X
/-- the world behind a making -/
theorem znew_world {kd : Nat × Nat} {H H1 : Heap} {locs : List Loc} (hW : zWd D ca s A base b n0 z0 h H locs) (hA : ∀ q, s.heap.size ≤ q → A q) (hsz : H.size = base + h.1.length) (z1 : H1.size = base + h.1.length + 1) (o1 : ∀ q, q < base + h.1.length → H1[q]? = H[q]?) (hl : h.1.length < 1000000)
    (hat : va_at D vwCl (base + h.1.length, zcell ca base b (h.1 ++ [kd], zclr h.2.1 h.1.length, zclrR h.2.2 h.1.length) h.1.length kd) H1) :
    zWd D ca s A base b n0 z0 (h.1 ++ [kd], zclr h.2.1 h.1.length, zclrR h.2.2 h.1.length) H1 locs := by
  obtain ⟨hP, hD, hS, hle, hzi, hn0, hz0⟩ := hW
  have hk : ∀ (k : Nat) (x : Nat × va_E), (ztw ca base b h)[k]? = some x → H1[x.1]? = H[x.1]? := fun k x hx => o1 x.1 (by rw [← hsz]; exact (hP k x hx).lt)
  have hS1 := hS.1
  refine ⟨?_, ?_, ⟨by omega, fun x g1 g2 => (o1 x (by omega)).trans (hS.2.1 x g1 g2), hS.2.2⟩, by simp; omega, ?_, by simp; omega, by rw [show zsl (h.1 ++ [kd], zclr h.2.1 h.1.length, zclrR h.2.2 h.1.length).1 = zsl h.1 + zsz kd from zsl_push _ _]; omega⟩
  · rw [ztw_push]
    refine (hP.kept hk).app (fun k x hx => ?_)
    have hz : k < 1 := (List.getElem?_eq_some_iff.mp hx).1
    rw [show k = 0 by omega] at hx
    cases hx
    exact hat
  · rw [ztw_push]
    exact hD.push hP hsz.symm (hA _ (by omega))
  · intro o j
    show zI (zclr h.2.1 h.1.length o j)
    unfold zclr
    split
    · show zI 0
      exact ⟨by decide, by decide⟩
    · exact hzi _ _
theorem zi_new {x ci : Nat} (CX : zCx p R s mth args meth c D ca A base n0 m) (hd : decode (zby m) pc = .ok (.new x, 3)) (hf : zcl.lookup (zow m, x) = some ci) (hz : zs ext (.new ci) ls st h = some (ls', st', h')) (hroom : h'.1.length - n0 ≤ R.cells ∧ zsl h'.1 - z0 ≤ R.slots) (kk : zGo p l e R s mth args below meth c Q D ca A base b n0 z0 m (pc + 3) ls' st' h') : zGo p l e R s mth args below meth c Q D ca A base b n0 z0 m pc ls st h := by
  simp only [zs] at hz
  split at hz
  · rename_i hi
    simp only [Option.some.injEq, Prod.mk.injEq] at hz
    obtain ⟨rfl, rfl, rfl⟩ := hz
    intro H locs lsA hW hl hn h1 h2
    obtain ⟨hx, hb, hml, hown, hts, hnw, hK, hini, hA, hbase, hlk, hfr, hlo⟩ := id CX
    obtain ⟨hP, hD, hS, hle, hzi, hn0, hz0⟩ := id hW
    obtain ⟨hci, hl6⟩ := hi
    have hlen : (h.1 ++ [(ci + 3, 0)]).length = h.1.length + 1 := by simp
    have hsl : zsl (h.1 ++ [(ci + 3, 0)]) = zsl h.1 + zcN ci := zsl_push _ _
    simp only [hlen, hsl] at hroom
    have hKn := hK.1 ci _ (zg_cls hci)
    refine W_size hP hS hbase hn0 (fun hsz => ?_)
    refine W.newcK (C := zcn ci) (n := zcN ci) hx hb hown (hts _ (zg_cl (z_lookup hf))) (hts _ (zg_ins hci)) (hts _ (zg_ini hci)) rfl hd (by omega) (by omega) hKn.2.1 hsz fun H1 kC hkC e1 z1 o1 => ?_
    refine W.cs (cells' := (h.1 ++ [(ci + 3, 0)]).length - n0) (slots' := zsl (h.1 ++ [(ci + 3, 0)]) - z0) (by omega) (by omega) ?_
    have k2 := kk H1 locs lsA (znew_world (kd := (ci + 3, 0)) hW hA hsz z1 o1 hl6 ?_) hl hn h1 (List.forall_mem_cons.mpr ⟨trivial, h2⟩)
    · rw [List.map_cons, show ztv base b (.inr (some h.1.length)) = .ref (base + h.1.length) from congrArg Value.ref (zad_eq hl6)] at k2
      exact k2
    · refine ⟨_, zg_cls hci, (u_born (zcy ci) hts (zg_us hci) hKn hkC e1 (zg_ty hci)).to (fun j hj => ?_)⟩
      show defaultValue (zcy ci j) = ((List.range (zcN ci)).map (zfv base b ci (h.1 ++ [(ci + 3, 0)], zclr h.2.1 h.1.length, zclrR h.2.2 h.1.length) h.1.length)).getD j .null
      rw [List.getD_eq_getElem?_getD, zfs_get hj, Option.getD_some, zfv]
      by_cases hty : zcy ci j = .int
      · rw [if_pos hty, hty]
        simp [zclr, defaultValue]
      · rw [if_neg hty]
        have hr := zty_ref hci hj hty
        have hdv : ∀ ty : FieldType, ty.isReference = true → defaultValue ty = .null := by
          intro ty hq
          cases ty <;> first | rfl | cases hq
        rw [hdv _ hr]
        simp [zclrR, va_rf]
  · cases hz
theorem zi_newarray_int (CX : zCx p R s mth args meth c D ca A base n0 m) (hd : decode (zby m) pc = .ok (.newarray .int, 2)) (hz : zs ext (.newarray .int) ls st h = some (ls', st', h')) (hroom : h'.1.length - n0 ≤ R.cells ∧ zsl h'.1 - z0 ≤ R.slots) (kk : zGo p l e R s mth args below meth c Q D ca A base b n0 z0 m (pc + 2) ls' st' h') : zGo p l e R s mth args below meth c Q D ca A base b n0 z0 m pc ls st h := by
  simp only [zs] at hz
  split at hz
  · rename_i n st
    split at hz
    · rename_i hi
      simp only [Option.some.injEq, Prod.mk.injEq] at hz
      obtain ⟨rfl, rfl, rfl⟩ := hz
      intro H locs lsA hW hl hn h1 h2
      obtain ⟨hx, hb, hml, hown, hts, hnw, hK, hini, hA, hbase, hlk, hfr, hlo⟩ := id CX
      obtain ⟨hP, hD, hS, hle, hzi, hn0, hz0⟩ := id hW
      obtain ⟨hn1, hn2, hl6⟩ := hi
      have h3 := List.forall_mem_cons.mp h2
      have hlen : (h.1 ++ [(0, n.toNat)]).length = h.1.length + 1 := by simp
      have hsl : zsl (h.1 ++ [(0, n.toNat)]) = zsl h.1 + n.toNat := zsl_push _ _
      simp only [hlen, hsl] at hroom
      refine W_size hP hS hbase hn0 (fun hsz => ?_)
      refine va_newaK hx hb (atype := .int) (hts _ (zg_n2 _ (List.mem_of_getElem? (i := 7) rfl))) rfl hd rfl (fun q => by have := (z32_neg h3.1).mp q; omega) (z32_clamp h3.1) (by show n.toNat * 4 ≤ _; omega) (by omega) (by omega) hsz fun H1 cA e1 z1 o1 hAr hNm => ?_
      have hcA : cA = ca.1 := Option.some.inj (hNm.symm.trans (hK.2 0 _ rfl).2)
      subst hcA
      refine W.cs (cells' := (h.1 ++ [(0, n.toNat)]).length - n0) (slots' := zsl (h.1 ++ [(0, n.toNat)]) - z0) (by omega) (by omega) ?_
      have k2 := kk H1 locs lsA (znew_world (kd := (0, n.toNat)) hW hA hsz z1 o1 hl6 ?_) hl hn h1 (List.forall_mem_cons.mpr ⟨trivial, h3.2⟩)
      · rw [List.map_cons, show ztv base b (.inr (some h.1.length)) = .ref (base + h.1.length) from congrArg Value.ref (zad_eq hl6)] at k2
        exact k2
      · show H1[base + h.1.length]? = some (vp_cell _ _)
        rw [e1]
        congr 1
        rw [vp_cell_i]
        congr 1
        funext j
        simp [zclr]
        rfl
    · cases hz
  · cases hz
theorem zi_newarray_boolean (CX : zCx p R s mth args meth c D ca A base n0 m) (hd : decode (zby m) pc = .ok (.newarray .boolean, 2)) (hz : zs ext (.newarray .boolean) ls st h = some (ls', st', h')) (hroom : h'.1.length - n0 ≤ R.cells ∧ zsl h'.1 - z0 ≤ R.slots) (kk : zGo p l e R s mth args below meth c Q D ca A base b n0 z0 m (pc + 2) ls' st' h') : zGo p l e R s mth args below meth c Q D ca A base b n0 z0 m pc ls st h := by
  simp only [zs] at hz
  split at hz
  · rename_i n st
    split at hz
    · rename_i hi
      simp only [Option.some.injEq, Prod.mk.injEq] at hz
      obtain ⟨rfl, rfl, rfl⟩ := hz
      intro H locs lsA hW hl hn h1 h2
      obtain ⟨hx, hb, hml, hown, hts, hnw, hK, hini, hA, hbase, hlk, hfr, hlo⟩ := id CX
      obtain ⟨hP, hD, hS, hle, hzi, hn0, hz0⟩ := id hW
      obtain ⟨hn1, hn2, hl6⟩ := hi
      have h3 := List.forall_mem_cons.mp h2
      have hlen : (h.1 ++ [(1, n.toNat)]).length = h.1.length + 1 := by simp
      have hsl : zsl (h.1 ++ [(1, n.toNat)]) = zsl h.1 + n.toNat := zsl_push _ _
      simp only [hlen, hsl] at hroom
      refine W_size hP hS hbase hn0 (fun hsz => ?_)
      refine va_newaK hx hb (atype := .boolean) (hts _ (zg_n2 _ (List.mem_of_getElem? (i := 8) rfl))) rfl hd rfl (fun q => by have := (z32_neg h3.1).mp q; omega) (z32_clamp h3.1) (by show n.toNat * 1 ≤ _; omega) (by omega) (by omega) hsz fun H1 cA e1 z1 o1 hAr hNm => ?_
      have hcA : cA = ca.2.1 := Option.some.inj (hNm.symm.trans (hK.2 1 _ rfl).2)
      subst hcA
      refine W.cs (cells' := (h.1 ++ [(1, n.toNat)]).length - n0) (slots' := zsl (h.1 ++ [(1, n.toNat)]) - z0) (by omega) (by omega) ?_
      have k2 := kk H1 locs lsA (znew_world (kd := (1, n.toNat)) hW hA hsz z1 o1 hl6 ?_) hl hn h1 (List.forall_mem_cons.mpr ⟨trivial, h3.2⟩)
      · rw [List.map_cons, show ztv base b (.inr (some h.1.length)) = .ref (base + h.1.length) from congrArg Value.ref (zad_eq hl6)] at k2
        exact k2
      · show H1[base + h.1.length]? = some (vp_cell _ _)
        rw [e1]
        congr 1
        rw [vp_cell_i]
        congr 1
        funext j
        simp [zclr]
        rfl
    · cases hz
  · cases hz
theorem zi_anewarray {x : Nat} (CX : zCx p R s mth args meth c D ca A base n0 m) (hd : decode (zby m) pc = .ok (.anewarray x, 3)) (hf : zcl.lookup (zow m, x) = some 5) (hz : zs ext (.anewarray 5) ls st h = some (ls', st', h')) (hroom : h'.1.length - n0 ≤ R.cells ∧ zsl h'.1 - z0 ≤ R.slots) (kk : zGo p l e R s mth args below meth c Q D ca A base b n0 z0 m (pc + 3) ls' st' h') : zGo p l e R s mth args below meth c Q D ca A base b n0 z0 m pc ls st h := by
  simp only [zs] at hz
  split at hz
  · rename_i n st
    split at hz
    · rename_i hi
      simp only [Option.some.injEq, Prod.mk.injEq] at hz
      obtain ⟨rfl, rfl, rfl⟩ := hz
      intro H locs lsA hW hl hn h1 h2
      obtain ⟨hx, hb, hml, hown, hts, hnw, hK, hini, hA, hbase, hlk, hfr, hlo⟩ := id CX
      obtain ⟨hP, hD, hS, hle, hzi, hn0, hz0⟩ := id hW
      obtain ⟨hn1, hn2, hl6⟩ := hi
      have h3 := List.forall_mem_cons.mp h2
      have hlen : (h.1 ++ [(2, n.toNat)]).length = h.1.length + 1 := by simp
      have hsl : zsl (h.1 ++ [(2, n.toNat)]) = zsl h.1 + n.toNat := zsl_push _ _
      simp only [hlen, hsl] at hroom
      refine W_size hP hS hbase hn0 (fun hsz => ?_)
      have hc3 := z32_clamp h3.1
      refine W.anew (C := RX5) hx hb hown (hts _ (zg_cl (z_lookup hf))) (va_AO.use hnw.2) rfl hd rfl (fun q => by have := (z32_neg h3.1).mp q; omega) (by rw [hc3]; omega) (by omega) (by rw [hc3]; omega) fun cA kA comp f1 f2 f3 f4 => ?_
      obtain ⟨kA', comp', j1, j2, j3, j4⟩ := (hK.2 2 _ rfl).2
      have hcA : cA = ca.2.2 := Option.some.inj (f1.symm.trans j4)
      subst hcA
      rw [hc3]
      generalize hH1 : H.push ({ cls := ca.2.2, slots := Array.replicate n.toNat .null, vm := .none } : Cell) = H1
      have z1 : H1.size = base + h.1.length + 1 := by rw [← hH1, Array.size_push, hsz]
      have e1 : H1[base + h.1.length]? = some (arrV ca.2.2 n.toNat (fun _ => .null)) := by rw [← hH1, ← hsz, Array.getElem?_push_size, ← arrV_new]
      have o1 : ∀ q : Nat, q < base + h.1.length → H1[q]? = H[q]? := fun q hq => by rw [← hH1, Array.getElem?_push, if_neg (by omega)]
      refine W.cs (cells' := (h.1 ++ [(2, n.toNat)]).length - n0) (slots' := zsl (h.1 ++ [(2, n.toNat)]) - z0) (by omega) (by omega) ?_
      have k2 := kk H1 locs lsA (znew_world (kd := (2, n.toNat)) hW hA hsz z1 o1 hl6 ?_) hl hn h1 (List.forall_mem_cons.mpr ⟨trivial, h3.2⟩)
      · rw [List.map_cons, show ztv base b (.inr (some h.1.length)) = .ref (base + h.1.length) from congrArg Value.ref (zad_eq hl6), ← hsz] at k2
        exact k2
      · show H1[base + h.1.length]? = some (vp_cell _ _)
        rw [e1]
        congr 1
        rw [vp_cell_q]
        congr 1
        funext j
        simp [zclrR, va_rf]
    · cases hz
  · cases hz
theorem zsum8 {st : List zV} : ((st.map (ztv base b)).map fun v => v.category).sum = st.length := by
  induction st with
  | nil => rfl
  | cons v st ih => simp only [List.map_cons, List.sum_cons, List.length_cons, zlv_cat, ih]; omega
theorem zi_objinit {x : Nat} (CX : zCx p R s mth args meth c D ca A base n0 m) (hd : decode (zby m) pc = .ok (.invokespecial x, 3)) (hf : (zow m, x) ∈ zoi) (hz : zs ext .lneg ls st h = some (ls', st', h')) (kk : zGo p l e R s mth args below meth c Q D ca A base b n0 z0 m (pc + 3) ls' st' h') : zGo p l e R s mth args below meth c Q D ca A base b n0 z0 m pc ls st h := by
  simp only [zs] at hz
  split at hz
  · rename_i o st
    split at hz
    · rename_i hi
      simp only [Option.some.injEq, Prod.mk.injEq] at hz
      obtain ⟨rfl, rfl, rfl⟩ := hz
      intro H locs lsA hW hl hn h1 h2
      obtain ⟨hx, hb, hml, hown, hts, hnw, hK, hini, hA, hbase, hlk, hfr, hlo⟩ := id CX
      obtain ⟨hP, hD, hS, hle, hzi, hn0, hz0⟩ := id hW
      have h3 := List.forall_mem_cons.mp h2
      have k2 := kk H locs lsA hW hl hn h1 h3.2
      exact W.objInit hx hb hown (hts _ (zg_oi hf)) (hts _ (zg_n2 _ (List.mem_of_getElem? (i := 6) rfl))) (hts _ (zg_n3 _ (List.mem_of_getElem? (i := 2) rfl))) rfl (by rw [hml]; exact hl.1) rfl hd (by omega) (by show 2 * 0 + _ + 12 ≤ _; rw [zsum8]; omega) k2
    · cases hz
  · cases hz
theorem zi_mmax {x : Nat} (CX : zCx p R s mth args meth c D ca A base n0 m) (hd : decode (zby m) pc = .ok (.invokestatic x, 3)) (hf : zna.lookup (zow m, x) = some 0) (hroom : h.1.length - n0 ≤ R.cells ∧ zsl h.1 - z0 ≤ R.slots) (hz : zs ext .lmul ls st h = some (ls', st', h')) (kk : zGo p l e R s mth args below meth c Q D ca A base b n0 z0 m (pc + 3) ls' st' h') : zGo p l e R s mth args below meth c Q D ca A base b n0 z0 m pc ls st h := by
  simp only [zs] at hz
  split at hz
  · rename_i y x st
    split at hz
    · rename_i hi
      simp only [Option.some.injEq, Prod.mk.injEq] at hz
      obtain ⟨rfl, rfl, rfl⟩ := hz
      intro H locs lsA hW hl hn h1 h2
      obtain ⟨hx, hb, hml, hown, hts, hnw, hK, hini, hA, hbase, hlk, hfr, hlo⟩ := id CX
      obtain ⟨hP, hD, hS, hle, hzi, hn0, hz0⟩ := id hW
      have h3 := List.forall_mem_cons.mp h2
      have h4 := List.forall_mem_cons.mp h3.2
      have hrg : zI (max x y) := by have := h3.1; have := h4.1; unfold zVI at *; omega
      have k2 := kk H locs lsA hW hl hn h1 (List.forall_mem_cons.mpr ⟨hrg, h4.2⟩)
      rw [List.map_cons, show ztv base b (.inl (max x y)) = .int _ from congrArg Value.int (z32_max h4.1 h3.1)] at k2
      exact va_mmax hx hb (by rw [hml]; exact hl.1.symm) hown (hts _ (zg_na (z_lookup hf))) (hts _ (zg_n2 _ (List.mem_of_getElem? (i := 0) rfl))) (hts _ (zg_n2 _ (List.mem_of_getElem? (i := 4) rfl))) (hts _ (zg_n3 _ (List.mem_of_getElem? (i := 0) rfl))) (by omega) (by rw [zsum8]; omega) hroom.1 hroom.2 hd k2
    · cases hz
  · cases hz
theorem zi_mmin {x : Nat} (CX : zCx p R s mth args meth c D ca A base n0 m) (hd : decode (zby m) pc = .ok (.invokestatic x, 3)) (hf : zna.lookup (zow m, x) = some 1) (hroom : h.1.length - n0 ≤ R.cells ∧ zsl h.1 - z0 ≤ R.slots) (hz : zs ext .ldiv ls st h = some (ls', st', h')) (kk : zGo p l e R s mth args below meth c Q D ca A base b n0 z0 m (pc + 3) ls' st' h') : zGo p l e R s mth args below meth c Q D ca A base b n0 z0 m pc ls st h := by
  simp only [zs] at hz
  split at hz
  · rename_i y x st
    split at hz
    · rename_i hi
      simp only [Option.some.injEq, Prod.mk.injEq] at hz
      obtain ⟨rfl, rfl, rfl⟩ := hz
      intro H locs lsA hW hl hn h1 h2
      obtain ⟨hx, hb, hml, hown, hts, hnw, hK, hini, hA, hbase, hlk, hfr, hlo⟩ := id CX
      obtain ⟨hP, hD, hS, hle, hzi, hn0, hz0⟩ := id hW
      have h3 := List.forall_mem_cons.mp h2
      have h4 := List.forall_mem_cons.mp h3.2
      have hrg : zI (min x y) := by have := h3.1; have := h4.1; unfold zVI at *; omega
      have k2 := kk H locs lsA hW hl hn h1 (List.forall_mem_cons.mpr ⟨hrg, h4.2⟩)
      rw [List.map_cons, show ztv base b (.inl (min x y)) = .int _ from congrArg Value.int (z32_min h4.1 h3.1)] at k2
      exact va_mmin hx hb (by rw [hml]; exact hl.1.symm) hown (hts _ (zg_na (z_lookup hf))) (hts _ (zg_n2 _ (List.mem_of_getElem? (i := 1) rfl))) (hts _ (zg_n2 _ (List.mem_of_getElem? (i := 4) rfl))) (hts _ (zg_n3 _ (List.mem_of_getElem? (i := 1) rfl))) (by omega) (by rw [zsum8]; omega) hroom.1 hroom.2 hd k2
    · cases hz
  · cases hz
theorem zi_copy {x : Nat} (CX : zCx p R s mth args meth c D ca A base n0 m) (hd : decode (zby m) pc = .ok (.invokestatic x, 3)) (hf : zna.lookup (zow m, x) = some 2) (hz : zs ext .lshl ls st h = some (ls', st', h')) (kk : zGo p l e R s mth args below meth c Q D ca A base b n0 z0 m (pc + 3) ls' st' h') : zGo p l e R s mth args below meth c Q D ca A base b n0 z0 m pc ls st h := by
  simp only [zs] at hz
  split at hz
  · rename_i n dp q sp o st
    split at hz
    · rename_i np nq ho hq
      split at hz
      · rename_i hi
        simp only [Option.some.injEq, Prod.mk.injEq] at hz
        obtain ⟨rfl, rfl, rfl⟩ := hz
        intro H locs lsA hW hl hn h1 h2
        obtain ⟨hx, hb, hml, hown, hts, hnw, hK, hini, hA, hbase, hlk, hfr, hlo⟩ := id CX
        obtain ⟨hP, hD, hS, hle, hzi, hn0, hz0⟩ := id hW
        obtain ⟨i1, i2, i3, i4, i5, i6⟩ := hi
        have h3 := List.forall_mem_cons.mp h2
        have h4 := List.forall_mem_cons.mp h3.2
        have h5 := List.forall_mem_cons.mp h4.2
        have h6 := List.forall_mem_cons.mp h5.2
        have h7 := List.forall_mem_cons.mp h6.2
        have c1 := z32_clamp h3.1
        have c2 := z32_clamp h4.1
        have c3 := z32_clamp h6.1
        rw [List.map_cons, List.map_cons, List.map_cons, List.map_cons, List.map_cons, show ztv base b (.inr (some o)) = .ref (base + o) from congrArg Value.ref (zo_lt hle ho), show ztv base b (.inr (some q)) = .ref (base + q) from congrArg Value.ref (zo_lt hle hq)]
        refine va_copyi (ty := .int) hx hb (by rw [hml]; exact hl.1.symm) hown (hts _ (zg_na (z_lookup hf))) (hts _ (zg_n2 _ (List.mem_of_getElem? (i := 3) rfl))) (hts _ (zg_n2 _ (List.mem_of_getElem? (i := 2) rfl))) (hts _ (zg_n2 _ (List.mem_of_getElem? (i := 5) rfl))) hK hP hD hS o q 0 0 (ztw_get ho) (ztw_get hq) rfl rfl rfl
          (fun w => by have := (z32_neg h6.1).mp w; omega) (fun w => by have := (z32_neg h4.1).mp w; omega) (fun w => by have := (z32_neg h3.1).mp w; omega) (by rw [c1, c3]; omega) (by rw [c1, c2]; omega) (fun _ _ => rfl) (by omega) ?_ hd ?_
        · have hnf : nativeFrameWords "java/lang/System" "arraycopy" 5 ≤ 100 := by decide +kernel
          rw [zsum8]; omega
        · intro H1 locs1 a1 a2 a3
          have he : (.inl (ca.1, nq, .inl (va_cpy (fun j : Nat => Int32.ofInt (h.2.1 o j)) (fun j : Nat => Int32.ofInt (h.2.1 q j)) (Int32.ofInt sp).toNatClampNeg (Int32.ofInt dp).toNatClampNeg (Int32.ofInt n).toNatClampNeg)) : va_E) = zcell ca base b (h.1, zcp h.2.1 o sp q dp n, h.2.2) q (0, nq) := by
            unfold zcell
            rw [c1, c2, c3]
            congr 3
            refine congrArg Sum.inl ?_
            funext j
            simp only [va_cpy, zcp, if_true]
            by_cases hj : dp.toNat ≤ j ∧ j < dp.toNat + n.toNat
            · have g1 : dp ≤ (j : Int) ∧ (j : Int) < dp + n := by omega
              rw [if_pos hj, if_pos g1]
              have e : sp + ((j : Int) - dp) = ((sp.toNat + (j - dp.toNat) : Nat) : Int) := by omega
              rw [e]
            · have g1 : ¬ (dp ≤ (j : Int) ∧ (j : Int) < dp + n) := by omega
              rw [if_neg hj, if_neg g1]
          rw [he, ztw_set (h := h) (h' := (h.1, zcp h.2.1 o sp q dp n, h.2.2)) (kd := (0, nq)) rfl hq (by intro j hj; simp [zcp, hj]) (fun _ _ => rfl)] at a1 a2
          refine kk H1 locs1 lsA ⟨a1, a2, a3, hle, ?_, hn0, hz0⟩ hl hn h1 h7.2
          intro o' j
          show zI (zcp h.2.1 o sp q dp n o' j)
          unfold zcp
          split
          · dsimp only
            split <;> exact hzi _ _
          · exact hzi _ _
      · cases hz
    · cases hz
  · cases hz
-- branches
theorem zi_if_eq {o : Int} {a : Int} (CX : zCx p R s mth args meth c D ca A base n0 m) (hd : decode (zby m) pc = .ok (.ifCond .eq o, 3)) (ho : 0 ≤ (pc : Int) + o) (kt : zcb .eq a 0 = true → zGo p l e R s mth args below meth c Q D ca A base b n0 z0 m ((pc : Int) + o).toNat ls st h) (kf : zcb .eq a 0 = false → zGo p l e R s mth args below meth c Q D ca A base b n0 z0 m (pc + 3) ls st h) : zGo p l e R s mth args below meth c Q D ca A base b n0 z0 m pc ls (.inl a :: st) h := by
  intro H locs lsA hW hl hn h1 h2
  obtain ⟨hx, hb, hml, hown, hts, hnw, hK, hini, hA, hbase, hlk, hfr, hlo⟩ := id CX
  have h3 := List.forall_mem_cons.mp h2
  have hq : (Int32.ofInt a = 0) ↔ zcb .eq a 0 = true := by
    have e0 : (0 : Int32) = Int32.ofInt 0 := rfl
    have z0' : zI 0 := ⟨by decide, by decide⟩
    rw [e0]
    simp only [zcb, decide_eq_true_eq, ne_eq, z32_eq h3.1 z0']
  refine lv_if_eq (tgt := ((pc : Int) + o).toNat) hx hb hd (by omega) (fun w => kt (hq.mp w) H locs lsA hW hl hn h1 h3.2) (fun w => kf (Bool.eq_false_iff.mpr fun hb2 => by first | exact absurd w (hq.mpr hb2) | exact absurd (hq.mpr hb2) w) H locs lsA hW hl hn h1 h3.2)
theorem zi_icmp_eq {o : Int} {a b2 : Int} (CX : zCx p R s mth args meth c D ca A base n0 m) (hd : decode (zby m) pc = .ok (.if_icmp .eq o, 3)) (ho : 0 ≤ (pc : Int) + o) (kt : zcb .eq a b2 = true → zGo p l e R s mth args below meth c Q D ca A base b n0 z0 m ((pc : Int) + o).toNat ls st h) (kf : zcb .eq a b2 = false → zGo p l e R s mth args below meth c Q D ca A base b n0 z0 m (pc + 3) ls st h) : zGo p l e R s mth args below meth c Q D ca A base b n0 z0 m pc ls (.inl b2 :: .inl a :: st) h := by
  intro H locs lsA hW hl hn h1 h2
  obtain ⟨hx, hb, hml, hown, hts, hnw, hK, hini, hA, hbase, hlk, hfr, hlo⟩ := id CX
  have h3 := List.forall_mem_cons.mp h2
  have h4 := List.forall_mem_cons.mp h3.2
  have hq : (Int32.ofInt a = Int32.ofInt b2) ↔ zcb .eq a b2 = true := by
    have z0' : zI b2 := h3.1
    simp only [zcb, decide_eq_true_eq, ne_eq, z32_eq h4.1 z0']
  refine lv_icmp_eq (tgt := ((pc : Int) + o).toNat) hx hb hd (by omega) (fun w => kt (hq.mp w) H locs lsA hW hl hn h1 h4.2) (fun w => kf (Bool.eq_false_iff.mpr fun hb2 => by first | exact absurd w (hq.mpr hb2) | exact absurd (hq.mpr hb2) w) H locs lsA hW hl hn h1 h4.2)
theorem zi_if_ne {o : Int} {a : Int} (CX : zCx p R s mth args meth c D ca A base n0 m) (hd : decode (zby m) pc = .ok (.ifCond .ne o, 3)) (ho : 0 ≤ (pc : Int) + o) (kt : zcb .ne a 0 = true → zGo p l e R s mth args below meth c Q D ca A base b n0 z0 m ((pc : Int) + o).toNat ls st h) (kf : zcb .ne a 0 = false → zGo p l e R s mth args below meth c Q D ca A base b n0 z0 m (pc + 3) ls st h) : zGo p l e R s mth args below meth c Q D ca A base b n0 z0 m pc ls (.inl a :: st) h := by
  intro H locs lsA hW hl hn h1 h2
  obtain ⟨hx, hb, hml, hown, hts, hnw, hK, hini, hA, hbase, hlk, hfr, hlo⟩ := id CX
  have h3 := List.forall_mem_cons.mp h2
  have hq : (¬ Int32.ofInt a = 0) ↔ zcb .ne a 0 = true := by
    have e0 : (0 : Int32) = Int32.ofInt 0 := rfl
    have z0' : zI 0 := ⟨by decide, by decide⟩
    rw [e0]
    simp only [zcb, decide_eq_true_eq, ne_eq, z32_eq h3.1 z0']
  refine lv_if_ne (tgt := ((pc : Int) + o).toNat) hx hb hd (by omega) (fun w => kt (hq.mp w) H locs lsA hW hl hn h1 h3.2) (fun w => kf (Bool.eq_false_iff.mpr fun hb2 => by first | exact absurd w (hq.mpr hb2) | exact absurd (hq.mpr hb2) w) H locs lsA hW hl hn h1 h3.2)
theorem zi_icmp_ne {o : Int} {a b2 : Int} (CX : zCx p R s mth args meth c D ca A base n0 m) (hd : decode (zby m) pc = .ok (.if_icmp .ne o, 3)) (ho : 0 ≤ (pc : Int) + o) (kt : zcb .ne a b2 = true → zGo p l e R s mth args below meth c Q D ca A base b n0 z0 m ((pc : Int) + o).toNat ls st h) (kf : zcb .ne a b2 = false → zGo p l e R s mth args below meth c Q D ca A base b n0 z0 m (pc + 3) ls st h) : zGo p l e R s mth args below meth c Q D ca A base b n0 z0 m pc ls (.inl b2 :: .inl a :: st) h := by
  intro H locs lsA hW hl hn h1 h2
  obtain ⟨hx, hb, hml, hown, hts, hnw, hK, hini, hA, hbase, hlk, hfr, hlo⟩ := id CX
  have h3 := List.forall_mem_cons.mp h2
  have h4 := List.forall_mem_cons.mp h3.2
  have hq : (¬ Int32.ofInt a = Int32.ofInt b2) ↔ zcb .ne a b2 = true := by
    have z0' : zI b2 := h3.1
    simp only [zcb, decide_eq_true_eq, ne_eq, z32_eq h4.1 z0']
  refine lv_icmp_ne (tgt := ((pc : Int) + o).toNat) hx hb hd (by omega) (fun w => kt (hq.mp w) H locs lsA hW hl hn h1 h4.2) (fun w => kf (Bool.eq_false_iff.mpr fun hb2 => by first | exact absurd w (hq.mpr hb2) | exact absurd (hq.mpr hb2) w) H locs lsA hW hl hn h1 h4.2)
theorem zi_if_lt {o : Int} {a : Int} (CX : zCx p R s mth args meth c D ca A base n0 m) (hd : decode (zby m) pc = .ok (.ifCond .lt o, 3)) (ho : 0 ≤ (pc : Int) + o) (kt : zcb .lt a 0 = true → zGo p l e R s mth args below meth c Q D ca A base b n0 z0 m ((pc : Int) + o).toNat ls st h) (kf : zcb .lt a 0 = false → zGo p l e R s mth args below meth c Q D ca A base b n0 z0 m (pc + 3) ls st h) : zGo p l e R s mth args below meth c Q D ca A base b n0 z0 m pc ls (.inl a :: st) h := by
  intro H locs lsA hW hl hn h1 h2
  obtain ⟨hx, hb, hml, hown, hts, hnw, hK, hini, hA, hbase, hlk, hfr, hlo⟩ := id CX
  have h3 := List.forall_mem_cons.mp h2
  have hq : (Int32.ofInt a < 0) ↔ zcb .lt a 0 = true := by
    have e0 : (0 : Int32) = Int32.ofInt 0 := rfl
    have z0' : zI 0 := ⟨by decide, by decide⟩
    rw [e0]
    simp only [zcb, decide_eq_true_eq, ne_eq, z32_lt h3.1 z0']
  refine lv_if_lt (tgt := ((pc : Int) + o).toNat) hx hb hd (by omega) (fun w => kt (hq.mp w) H locs lsA hW hl hn h1 h3.2) (fun w => kf (Bool.eq_false_iff.mpr fun hb2 => by first | exact absurd w (hq.mpr hb2) | exact absurd (hq.mpr hb2) w) H locs lsA hW hl hn h1 h3.2)
theorem zi_icmp_lt {o : Int} {a b2 : Int} (CX : zCx p R s mth args meth c D ca A base n0 m) (hd : decode (zby m) pc = .ok (.if_icmp .lt o, 3)) (ho : 0 ≤ (pc : Int) + o) (kt : zcb .lt a b2 = true → zGo p l e R s mth args below meth c Q D ca A base b n0 z0 m ((pc : Int) + o).toNat ls st h) (kf : zcb .lt a b2 = false → zGo p l e R s mth args below meth c Q D ca A base b n0 z0 m (pc + 3) ls st h) : zGo p l e R s mth args below meth c Q D ca A base b n0 z0 m pc ls (.inl b2 :: .inl a :: st) h := by
  intro H locs lsA hW hl hn h1 h2
  obtain ⟨hx, hb, hml, hown, hts, hnw, hK, hini, hA, hbase, hlk, hfr, hlo⟩ := id CX
  have h3 := List.forall_mem_cons.mp h2
  have h4 := List.forall_mem_cons.mp h3.2
  have hq : (Int32.ofInt a < Int32.ofInt b2) ↔ zcb .lt a b2 = true := by
    have z0' : zI b2 := h3.1
    simp only [zcb, decide_eq_true_eq, ne_eq, z32_lt h4.1 z0']
  refine lv_icmp_lt (tgt := ((pc : Int) + o).toNat) hx hb hd (by omega) (fun w => kt (hq.mp w) H locs lsA hW hl hn h1 h4.2) (fun w => kf (Bool.eq_false_iff.mpr fun hb2 => by first | exact absurd w (hq.mpr hb2) | exact absurd (hq.mpr hb2) w) H locs lsA hW hl hn h1 h4.2)
theorem zi_if_ge {o : Int} {a : Int} (CX : zCx p R s mth args meth c D ca A base n0 m) (hd : decode (zby m) pc = .ok (.ifCond .ge o, 3)) (ho : 0 ≤ (pc : Int) + o) (kt : zcb .ge a 0 = true → zGo p l e R s mth args below meth c Q D ca A base b n0 z0 m ((pc : Int) + o).toNat ls st h) (kf : zcb .ge a 0 = false → zGo p l e R s mth args below meth c Q D ca A base b n0 z0 m (pc + 3) ls st h) : zGo p l e R s mth args below meth c Q D ca A base b n0 z0 m pc ls (.inl a :: st) h := by
  intro H locs lsA hW hl hn h1 h2
  obtain ⟨hx, hb, hml, hown, hts, hnw, hK, hini, hA, hbase, hlk, hfr, hlo⟩ := id CX
  have h3 := List.forall_mem_cons.mp h2
  have hq : ((0 : Int32) ≤ Int32.ofInt a) ↔ zcb .ge a 0 = true := by
    have e0 : (0 : Int32) = Int32.ofInt 0 := rfl
    have z0' : zI 0 := ⟨by decide, by decide⟩
    rw [e0]
    simp only [zcb, decide_eq_true_eq, ne_eq, z32_le z0' h3.1]
  refine lv_if_ge (tgt := ((pc : Int) + o).toNat) hx hb hd (by omega) (fun w => kt (hq.mp w) H locs lsA hW hl hn h1 h3.2) (fun w => kf (Bool.eq_false_iff.mpr fun hb2 => by first | exact absurd w (hq.mpr hb2) | exact absurd (hq.mpr hb2) w) H locs lsA hW hl hn h1 h3.2)
theorem zi_icmp_ge {o : Int} {a b2 : Int} (CX : zCx p R s mth args meth c D ca A base n0 m) (hd : decode (zby m) pc = .ok (.if_icmp .ge o, 3)) (ho : 0 ≤ (pc : Int) + o) (kt : zcb .ge a b2 = true → zGo p l e R s mth args below meth c Q D ca A base b n0 z0 m ((pc : Int) + o).toNat ls st h) (kf : zcb .ge a b2 = false → zGo p l e R s mth args below meth c Q D ca A base b n0 z0 m (pc + 3) ls st h) : zGo p l e R s mth args below meth c Q D ca A base b n0 z0 m pc ls (.inl b2 :: .inl a :: st) h := by
  intro H locs lsA hW hl hn h1 h2
  obtain ⟨hx, hb, hml, hown, hts, hnw, hK, hini, hA, hbase, hlk, hfr, hlo⟩ := id CX
  have h3 := List.forall_mem_cons.mp h2
  have h4 := List.forall_mem_cons.mp h3.2
  have hq : (Int32.ofInt b2 ≤ Int32.ofInt a) ↔ zcb .ge a b2 = true := by
    have z0' : zI b2 := h3.1
    simp only [zcb, decide_eq_true_eq, ne_eq, z32_le z0' h4.1]
  refine lv_icmp_ge (tgt := ((pc : Int) + o).toNat) hx hb hd (by omega) (fun w => kt (hq.mp w) H locs lsA hW hl hn h1 h4.2) (fun w => kf (Bool.eq_false_iff.mpr fun hb2 => by first | exact absurd w (hq.mpr hb2) | exact absurd (hq.mpr hb2) w) H locs lsA hW hl hn h1 h4.2)
theorem zi_if_gt {o : Int} {a : Int} (CX : zCx p R s mth args meth c D ca A base n0 m) (hd : decode (zby m) pc = .ok (.ifCond .gt o, 3)) (ho : 0 ≤ (pc : Int) + o) (kt : zcb .gt a 0 = true → zGo p l e R s mth args below meth c Q D ca A base b n0 z0 m ((pc : Int) + o).toNat ls st h) (kf : zcb .gt a 0 = false → zGo p l e R s mth args below meth c Q D ca A base b n0 z0 m (pc + 3) ls st h) : zGo p l e R s mth args below meth c Q D ca A base b n0 z0 m pc ls (.inl a :: st) h := by
  intro H locs lsA hW hl hn h1 h2
  obtain ⟨hx, hb, hml, hown, hts, hnw, hK, hini, hA, hbase, hlk, hfr, hlo⟩ := id CX
  have h3 := List.forall_mem_cons.mp h2
  have hq : ((0 : Int32) < Int32.ofInt a) ↔ zcb .gt a 0 = true := by
    have e0 : (0 : Int32) = Int32.ofInt 0 := rfl
    have z0' : zI 0 := ⟨by decide, by decide⟩
    rw [e0]
    simp only [zcb, decide_eq_true_eq, ne_eq, z32_lt z0' h3.1]
  refine lv_if_gt (tgt := ((pc : Int) + o).toNat) hx hb hd (by omega) (fun w => kt (hq.mp w) H locs lsA hW hl hn h1 h3.2) (fun w => kf (Bool.eq_false_iff.mpr fun hb2 => by first | exact absurd w (hq.mpr hb2) | exact absurd (hq.mpr hb2) w) H locs lsA hW hl hn h1 h3.2)
theorem zi_icmp_gt {o : Int} {a b2 : Int} (CX : zCx p R s mth args meth c D ca A base n0 m) (hd : decode (zby m) pc = .ok (.if_icmp .gt o, 3)) (ho : 0 ≤ (pc : Int) + o) (kt : zcb .gt a b2 = true → zGo p l e R s mth args below meth c Q D ca A base b n0 z0 m ((pc : Int) + o).toNat ls st h) (kf : zcb .gt a b2 = false → zGo p l e R s mth args below meth c Q D ca A base b n0 z0 m (pc + 3) ls st h) : zGo p l e R s mth args below meth c Q D ca A base b n0 z0 m pc ls (.inl b2 :: .inl a :: st) h := by
  intro H locs lsA hW hl hn h1 h2
  obtain ⟨hx, hb, hml, hown, hts, hnw, hK, hini, hA, hbase, hlk, hfr, hlo⟩ := id CX
  have h3 := List.forall_mem_cons.mp h2
  have h4 := List.forall_mem_cons.mp h3.2
  have hq : (Int32.ofInt b2 < Int32.ofInt a) ↔ zcb .gt a b2 = true := by
    have z0' : zI b2 := h3.1
    simp only [zcb, decide_eq_true_eq, ne_eq, z32_lt z0' h4.1]
  refine lv_icmp_gt (tgt := ((pc : Int) + o).toNat) hx hb hd (by omega) (fun w => kt (hq.mp w) H locs lsA hW hl hn h1 h4.2) (fun w => kf (Bool.eq_false_iff.mpr fun hb2 => by first | exact absurd w (hq.mpr hb2) | exact absurd (hq.mpr hb2) w) H locs lsA hW hl hn h1 h4.2)
theorem zi_if_le {o : Int} {a : Int} (CX : zCx p R s mth args meth c D ca A base n0 m) (hd : decode (zby m) pc = .ok (.ifCond .le o, 3)) (ho : 0 ≤ (pc : Int) + o) (kt : zcb .le a 0 = true → zGo p l e R s mth args below meth c Q D ca A base b n0 z0 m ((pc : Int) + o).toNat ls st h) (kf : zcb .le a 0 = false → zGo p l e R s mth args below meth c Q D ca A base b n0 z0 m (pc + 3) ls st h) : zGo p l e R s mth args below meth c Q D ca A base b n0 z0 m pc ls (.inl a :: st) h := by
  intro H locs lsA hW hl hn h1 h2
  obtain ⟨hx, hb, hml, hown, hts, hnw, hK, hini, hA, hbase, hlk, hfr, hlo⟩ := id CX
  have h3 := List.forall_mem_cons.mp h2
  have hq : (Int32.ofInt a ≤ 0) ↔ zcb .le a 0 = true := by
    have e0 : (0 : Int32) = Int32.ofInt 0 := rfl
    have z0' : zI 0 := ⟨by decide, by decide⟩
    rw [e0]
    simp only [zcb, decide_eq_true_eq, ne_eq, z32_le h3.1 z0']
  refine lv_if_le (tgt := ((pc : Int) + o).toNat) hx hb hd (by omega) (fun w => kt (hq.mp w) H locs lsA hW hl hn h1 h3.2) (fun w => kf (Bool.eq_false_iff.mpr fun hb2 => by first | exact absurd w (hq.mpr hb2) | exact absurd (hq.mpr hb2) w) H locs lsA hW hl hn h1 h3.2)
theorem zi_icmp_le {o : Int} {a b2 : Int} (CX : zCx p R s mth args meth c D ca A base n0 m) (hd : decode (zby m) pc = .ok (.if_icmp .le o, 3)) (ho : 0 ≤ (pc : Int) + o) (kt : zcb .le a b2 = true → zGo p l e R s mth args below meth c Q D ca A base b n0 z0 m ((pc : Int) + o).toNat ls st h) (kf : zcb .le a b2 = false → zGo p l e R s mth args below meth c Q D ca A base b n0 z0 m (pc + 3) ls st h) : zGo p l e R s mth args below meth c Q D ca A base b n0 z0 m pc ls (.inl b2 :: .inl a :: st) h := by
  intro H locs lsA hW hl hn h1 h2
  obtain ⟨hx, hb, hml, hown, hts, hnw, hK, hini, hA, hbase, hlk, hfr, hlo⟩ := id CX
  have h3 := List.forall_mem_cons.mp h2
  have h4 := List.forall_mem_cons.mp h3.2
  have hq : (Int32.ofInt a ≤ Int32.ofInt b2) ↔ zcb .le a b2 = true := by
    have z0' : zI b2 := h3.1
    simp only [zcb, decide_eq_true_eq, ne_eq, z32_le h4.1 z0']
  refine lv_icmp_le (tgt := ((pc : Int) + o).toNat) hx hb hd (by omega) (fun w => kt (hq.mp w) H locs lsA hW hl hn h1 h4.2) (fun w => kf (Bool.eq_false_iff.mpr fun hb2 => by first | exact absurd w (hq.mpr hb2) | exact absurd (hq.mpr hb2) w) H locs lsA hW hl hn h1 h4.2)
end ZN
