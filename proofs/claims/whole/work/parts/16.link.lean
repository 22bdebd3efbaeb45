/-! THE CLAIM OUT OF ONE WALK OF THE LAW'S BODY. Your part is whole_start (and what it stands on); all else here is the same for every law, but numbers. -/
def R_law : String := "BusRangesLaw"
def lw_P (b : Addr) (xs : List Int32) (args : Array Value) (s : State) : Prop := args = #[.ref b] ∧ s.IntsAt b xs ∧ xs.length ≤ 2560 ∧ (Jvm.Cond.and given_1 narrow_1).before args s = true
def lw_Q (_ : Array Value) (s : State) (o : Outcome) (t : State) : Prop := o = .returned (some (.int 1)) ∧ Framed s o t [] 600000 7302250
def lw_Z (below : List Frame) (a : Array Value) (s : State) : State → Prop := fun t => ∃ o, t.status = .running ∧ Ended t below o ∧ lw_Q a s o t
/-- the law's own end, with 1 on the stack, nothing written that was there before, its room as the claim has it -/
theorem lw_ret {p : Program} {l : Launch} {e : Env} {s : State} {m : MethodId} {below : List Frame} {meth : Method} {c : Code} {b : Nat} (hx : p.tables.exec = Jvm.exec) (hb : c.code = code) (hr : meth.sig.returnType = ret) (hlocks : meth.locks = false) {pc : Nat} {H : Heap} {ls : Array Slot} (hdg : decode code pc = .ok (.ireturn, 1)) : W p l e room_1 s m #[Value.ref b] below meth c H [] 600000 7302250 (lw_Z below #[Value.ref b] s) (F0 m pc ls [.int 1]) := by
  intro T hT X
  obtain ⟨fs, hret, hrun, hended, hW, hframe⟩ := X.leave (v := some (.int 1)) (hlocks := hlocks) (fun h => by rw [hr] at h; cases h)
  have hmeth' : T.vm.method? m = some meth := X.method'
  refine ⟨T.setFrames fs, ?_, .returned (some (.int 1)), hrun, hended, rfl, ⟨_, rfl⟩, hW, hframe⟩
  jvm_step X.here [X.here.top, hx, hb, hdg, hmeth', hr, ret, narrow_b1]
  (try refine ⟨rfl, ?_⟩); (try refine ⟨rfl, ?_⟩)
  first | (intro acts; rw [hret _ acts rfl rfl rfl]) | rw [hret _ _ rfl rfl rfl]
  exact Steps.refl _
/-- what holds at the law's entry: the machine, the code, the tables' words (any of lw_tbl by 'hts w (by decide +kernel)'), the script of L ints xs at the cell b, what the Statement gives of the start (any of its parts by flat_of_before) -/
def lw_At (p : Program) (s : State) (m : MethodId) (meth : Method) (c : Code) (b L : Nat) (xs : Nat → Int32) : Prop :=
  p.tables.exec = Jvm.exec ∧ c.code = code ∧ meth.sig.returnType = ret ∧ c.maxLocals = 4 ∧ s.vm.findClass R_law = some m.cls ∧ (∀ w ∈ lw_tbl, w.before #[Value.ref b] s = true) ∧ va_X b L xs s s.heap ∧ b < s.heap.size ∧ meth.locks = false ∧ (Jvm.Cond.and given_1 narrow_1).before #[Value.ref b] s = true
/-! THE LAW out of a run of zx -/
def zh0 : zH := ([], fun _ _ => 0, fun _ _ => none)
/-- what is left to show: on every script the law's run in the small machine ends with 1 -/
def zGoal : Prop := ∀ (L : Nat) (xs : Int → Int), L ≤ 2560 → (∀ j, zI (xs j)) → ∃ (n : Nat) (h' : zH), zx n 100 (some (L, xs)) 274 (zpg 274 0) [.inr (some 1000000), .inr none, .inr none, .inr none] [] zh0 = some (some (.inl 1), h') ∧ h'.1.length ≤ 600000 ∧ zsl h'.1 ≤ 7302250
theorem zk_start {s : State} {args : Array Value} (hts : ∀ w ∈ lw_tbl, w.before args s = true) : ∃ (D : va_G) (ca : zC3), va_K D vwCl (zTys ca) s := by
  obtain ⟨c0, i0, k0⟩ := u_known (C := RX0) (T := TX0) (N := 4) (n := 4) hts (fun w hw => zgw_in w (zg_us (ci := 0) (by decide) w hw)) (hts _ (zgw_in _ (zg_ins (ci := 0) (by decide))))
  obtain ⟨c1, i1, k1⟩ := u_known (C := RX1) (T := TX1) (N := 5) (n := 5) hts (fun w hw => zgw_in w (zg_us (ci := 1) (by decide) w hw)) (hts _ (zgw_in _ (zg_ins (ci := 1) (by decide))))
  obtain ⟨c2, i2, k2⟩ := u_known (C := RX2) (T := TX2) (N := 1) (n := 1) hts (fun w hw => zgw_in w (zg_us (ci := 2) (by decide) w hw)) (hts _ (zgw_in _ (zg_ins (ci := 2) (by decide))))
  obtain ⟨c3, i3, k3⟩ := u_known (C := RX3) (T := TX3) (N := 4) (n := 4) hts (fun w hw => zgw_in w (zg_us (ci := 3) (by decide) w hw)) (hts _ (zgw_in _ (zg_ins (ci := 3) (by decide))))
  obtain ⟨c4, i4, k4⟩ := u_known (C := RX4) (T := TX4) (N := 6) (n := 6) hts (fun w hw => zgw_in w (zg_us (ci := 4) (by decide) w hw)) (hts _ (zgw_in _ (zg_ins (ci := 4) (by decide))))
  obtain ⟨c5, i5, k5⟩ := u_known (C := RX5) (T := TX5) (N := 6) (n := 6) hts (fun w hw => zgw_in w (zg_us (ci := 5) (by decide) w hw)) (hts _ (zgw_in _ (zg_ins (ci := 5) (by decide))))
  obtain ⟨c6, i6, k6⟩ := u_known (C := RX6) (T := TX6) (N := 8) (n := 8) hts (fun w hw => zgw_in w (zg_us (ci := 6) (by decide) w hw)) (hts _ (zgw_in _ (zg_ins (ci := 6) (by decide))))
  obtain ⟨c7, i7, k7⟩ := u_known (C := RX7) (T := TX7) (N := 34) (n := 34) hts (fun w hw => zgw_in w (zg_us (ci := 7) (by decide) w hw)) (hts _ (zgw_in _ (zg_ins (ci := 7) (by decide))))
  have hg : ∀ w ∈ zwNat2, w.before args s = true := fun w hw => hts w (zgw_in w (zg_n2 w hw))
  obtain ⟨ci, ki, pi, a1, a2, a3⟩ := Cond.arrayClass_spec (hg (.arrayClass .int) (List.mem_of_getElem? (i := 7) rfl))
  obtain ⟨cz, kz, pz, b1, b2, b3⟩ := Cond.arrayClass_spec (hg (.arrayClass .boolean) (List.mem_of_getElem? (i := 8) rfl))
  obtain ⟨comp, ct, kt, d1, d2, d3, d4, d5⟩ := Cond.arrayOver_spec (hts (.arrayOver (.object RX5)) (zwAo_in _ List.mem_cons_self))
  refine ⟨(fun k => match k with | 0 => c0 | 1 => c1 | 2 => c2 | 3 => c3 | 4 => c4 | 5 => c5 | 6 => c6 | _ => c7, fun k => match k with | 0 => i0 | 1 => i1 | 2 => i2 | 3 => i3 | 4 => i4 | 5 => i5 | 6 => i6 | _ => i7), (ci, cz, ct), ?_, ?_⟩
  · intro c q hq
    match c, hq with
    | 0, hq => cases hq; exact k0
    | 1, hq => cases hq; exact k1
    | 2, hq => cases hq; exact k2
    | 3, hq => cases hq; exact k3
    | 4, hq => cases hq; exact k4
    | 5, hq => cases hq; exact k5
    | 6, hq => cases hq; exact k6
    | 7, hq => cases hq; exact k7
    | c + 8, hq => simp [vwCl] at hq
  · intro c q hq
    match c, hq with
    | 0, hq => cases hq; exact ⟨fun n z => ⟨fun k h => (by cases h), ki, a2, pi, a3⟩, a1⟩
    | 1, hq => cases hq; exact ⟨fun n z => ⟨fun k h => (by cases h), kz, b2, pz, b3⟩, b1⟩
    | 2, hq => cases hq; exact ⟨fun n z => ⟨fun k h => (by cases h), kt, d3, comp, d4⟩, kt, comp, d3, d4, d1, d5⟩
    | c + 3, hq => simp [zTys] at hq
set_option maxHeartbeats 4000000 in
theorem whole_start_of (hgoal : zGoal) {p : Program} {e : Env} {s : State} {m : MethodId} {below : List Frame} {meth : Method} {c : Code} (l : Launch) (hflags : l.flags = flags0) {b L : Nat} {xs : Nat → Int32} (hL : L ≤ 2560) (C0 : lw_At p s m meth c b L xs) : W p l e room_1 s m #[Value.ref b] below meth c s.heap [] 0 0 (lw_Z below #[Value.ref b] s) (entryFrame m ([Value.ref b] : List Value).toArray 4) := by
  obtain ⟨hx, hb, hr, hml, hown, hts, hX, hbl, hlocks, hgv⟩ := id C0
  obtain ⟨D, ca, hK⟩ := zk_start hts
  obtain ⟨n, h', hz, hz1, hz2⟩ := hgoal L (fun j => (xs j.toNat).toInt) hL (fun j => zI_toInt _)
  have CX : zCx p room_1 s m #[Value.ref b] meth c D ca (fun q => s.heap.size ≤ q) s.heap.size 0 274 := by
    refine ⟨hx, ?_, ?_, ?_, fun w hw => hts w (zgw_in w hw), ⟨fun w hw => ?_, va_AO.of (hts (.arrayOver (.object RX5)) (zwAo_in _ List.mem_cons_self))⟩, hK, ?_, fun q hq => hq, rfl, hlocks, by decide, by decide⟩
    · rw [hb, show zby 274 = code by unfold zby; rw [show zmt[274]? = none by decide +kernel]]
    · rw [hml, show zml 274 = 4 by unfold zml; rw [show zmt[274]? = none by decide +kernel]]
    · rw [show zow 274 = 8 by unfold zow; rw [show zmt[274]? = none by decide +kernel]]; exact hown
    · have h8 := hts w (zwLkN_in w hw)
      obtain ⟨x, -, rfl⟩ := List.mem_map.mp (show w ∈ zlkN.map zwLN from hw)
      exact va_Nw.of rfl h8
    · rw [show zini 274 = false by unfold zini; rw [show zmt[274]? = none by decide +kernel]]
      intro q
      cases q
  have XT : zXt (some (L, fun j => (xs j.toNat).toInt)) s (fun q => s.heap.size ≤ q) b := by
    refine ⟨?_, hbl, Nat.not_le.mpr hbl, fun j => zI_toInt _⟩
    obtain ⟨scr, g1, g2, g3, g4, g5⟩ := hX
    refine ⟨scr, g1, g2, g3, g4, fun j hj => ?_⟩
    rw [g5 j hj]
    simp
  have hlv := lv_entry ([.ref b]) (n := 4) (Nat.le_of_ble_eq_true rfl)
  rw [lg_entry_eq]
  generalize (lg_sl ([.ref b]) ++ List.replicate (4 - (lg_sl ([.ref b])).length) Slot.unset).toArray = lsA at hlv ⊢
  have hgo := z_all (l := l) (D := D) (ca := ca) (base := s.heap.size) (b := b) n 100 _ 274 _ _ _ _ _ _ hz p e room_1 s m #[Value.ref b] below meth c (lw_Z below #[Value.ref b] s) (fun q => s.heap.size ≤ q) 0 0 0 CX XT (by decide) (by have := zpg_ck (m := 274) (L := 0) (by decide) (by decide); simpa using this) (by decide) (by decide) hz1 hz2 ?_
  · have hml4 : zml 274 = 4 := by unfold zml; rw [show zmt[274]? = none by decide +kernel]
    refine hgo s.heap [] lsA ⟨fun k q hq => by simp [ztw, zh0] at hq, ⟨fun i j p q hi => by simp [ztw, zh0] at hi, fun k q hq => by simp [ztw, zh0] at hq⟩, va_S.rf, by decide, fun o j => (show zI 0 from ⟨by decide, by decide⟩), Nat.zero_le _, Nat.zero_le _⟩ ?_ (by rw [hml4]; rfl) ?_ (fun v hv => by cases hv)
    · rw [hml4]
      exact hlv
    · intro v hv
      simp at hv
      rcases hv with rfl | rfl <;> trivial
  · intro pc ls hd hrr H locs lsA' hW hl' hn' h1' h2'
    have hd2 : decode code pc = .ok (.ireturn, 1) := by
      have h3 := hd
      rw [show zby 274 = code by unfold zby; rw [show zmt[274]? = none by decide +kernel]] at h3
      exact h3
    have hS := hW.2.2.1
    refine va_forget (fun q hq => hS.2.2 q hq) ?_
    refine W.widen (k := 600000) (n := 7302250) (by omega) (by omega) ?_
    exact lw_ret hx hb hr hlocks hd2
