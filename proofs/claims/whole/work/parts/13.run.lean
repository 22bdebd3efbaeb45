/-! what zx computes, the real machine does -/
section ZQ
variable {p : Program} {l : Launch} {e : Env} {R : Room} {s : State} {mth : MethodId} {args : Array Value} {below : List Frame} {meth : Method} {c : Code} {Q : State → Prop} {D : va_G} {ca : zC3} {A : Nat → Prop} {base b n0 z0 m pc : Nat} {ext : zE} {ls st ls' st' : List zV} {h h' : zH}
/-- a method's room at call depth d -/
abbrev zrm (d mc ms : Nat) : Room := { frames := d + 1, cells := mc, slots := ms, locals := 200 + 60 * d }
def zPc (D : va_G) (ca : zC3) (base b : Nat) (as : List zV) (h : zH) : Array Value → State → Prop := va_Pc (as.map (ztv base b)) (fun U => U.heap.size = base + h.1.length ∧ va_P D vwCl (ztw ca base b h) U.heap ∧ va_K D vwCl (zTys ca) U ∧ va_D (fun _ => True) (ztw ca base b h) ∧ (∀ w ∈ zwLkN, va_Nw w U) ∧ va_AO RX5 U)
def zQc (D : va_G) (ca : zC3) (base b : Nat) (h : zH) (r : Option zV) (h' : zH) (A : Nat → Prop) : Array Value → State → Outcome → State → Prop := fun _ st oc t => oc = .returned (r.map (ztv base b)) ∧ (va_P D vwCl (ztw ca base b h') t.heap ∧ va_D A (ztw ca base b h') ∧ h'.1.length ≤ 1000000 ∧ (∀ o j, zI (h'.2.1 o j)) ∧ h.1.length ≤ h'.1.length ∧ zsl h.1 ≤ zsl h'.1 ∧ ∀ v ∈ r, zVI v) ∧ va_F A st t
theorem zPc_blind {as : List zV} : FrameBlind (zPc D ca base b as h) := by
  intro a U g mk hq
  obtain ⟨h1, h2, h3, h4, h5, h6, h7⟩ := hq
  refine ⟨h1, h2, h3, va_K.moved (u := U) (U := U.calling g mk a) (Vm.Alike.refl U.vm) h4, h5, fun w hw => ?_, va_AO.moved (u := U) (U := U.calling g mk a) (Vm.Alike.refl U.vm) h7⟩
  have h8 := h6 w hw
  obtain ⟨x, -, rfl⟩ := List.mem_map.mp (show w ∈ zlkN.map zwLN from hw)
  exact va_Nw.same rfl rfl h8
/-- behind a call -/
theorem zback {H : Heap} {locs : List Loc} {cells slots mc ms : Nat} {lsA : Array Slot} {stk rest : List Value} {r : Option zV} {h0 h1 : zH} {A1 free : Nat → Prop} {a : Array Value} (hr : va_Run p l e R s mth args below meth c H locs cells slots mc ms (F0 mth pc lsA stk) rest (zQc D ca base b h0 r h1 A1 a) free) (hS : va_S A s.heap H locs) (hA1 : ∀ q, A1 q → A q) (hfree : ∀ q, free q → A q)
    (kk : ∀ (H1 : Heap) (locs1 : List Loc), va_P D vwCl (ztw ca base b h1) H1 → va_D A1 (ztw ca base b h1) → h1.1.length ≤ 1000000 → (∀ o j, zI (h1.2.1 o j)) → h0.1.length ≤ h1.1.length → zsl h0.1 ≤ zsl h1.1 → (∀ v ∈ r, zVI v) → va_S A s.heap H1 locs1 → W p l e R s mth args below meth c H1 locs1 (cells + mc) (slots + ms) Q (F0 mth (pc + 3) lsA ((r.map (ztv base b)).toList ++ rest))) :
    W p l e R s mth args below meth c H locs cells slots Q (F0 mth pc lsA stk) := by
  intro T hT X
  obtain ⟨v, st₀, t, T', L, g0, X', hL, e1, e2, ⟨hv, ⟨q1, q2, q3, q4, q5, q6, q7⟩, hz, hk⟩, st⟩ := hr T hT X
  cases hv
  rw [g0] at hz hk
  obtain ⟨t2, a1, b1⟩ := kk T'.heap (locs ++ L) (by rw [e1]; exact q1) q2 q3 q4 q5 q6 q7
    ⟨Nat.le_trans hS.1 (by rw [e1]; exact hz), fun q g1 g2 => by rw [e1, hk q (Nat.lt_of_lt_of_le g1 hS.1) (fun z => g2 (hA1 q z))]; exact hS.2.1 q g1 g2, fun q hq => by
      rcases List.mem_append.mp hq with g | g
      · exact hS.2.2 q g
      · exact hfree _ (hL q g)⟩ T' rfl X'
  exact ⟨t2, st t2 a1, b1⟩
def zri (r : Option zV) : Instr := match r with
  | none => .return_
  | some (.inl _) => .ireturn
  | some (.inr _) => .areturn
def zrok (m : Nat) (r : Option zV) : Prop := match r with
  | none => zrk m = 0
  | some (.inl a) => zrk m = 1 ∨ (zrk m = 2 ∧ (a = 0 ∨ a = 1))
  | some (.inr (some _)) => zrk m = 3
  | some (.inr none) => False
def zEnd (p : Program) (l : Launch) (e : Env) (R : Room) (s : State) (mth : MethodId) (args : Array Value) (below : List Frame) (meth : Method) (c : Code) (Q : State → Prop) (D : va_G) (ca : zC3) (A : Nat → Prop) (base b n0 z0 m : Nat) (r : Option zV) (h' : zH) : Prop :=
  ∀ (pc : Nat) (ls : List zV), decode (zby m) pc = .ok (zri r, 1) → zrok m r → zGo p l e R s mth args below meth c Q D ca A base b n0 z0 m pc ls r.toList h'
def zRun (l : Launch) (D : va_G) (ca : zC3) (base b n : Nat) : Prop := ∀ (d : Nat) (ext : zE) (m : Nat) (is : List Instr) (ls st : List zV) (h h' : zH) (r : Option zV), zx n d ext m is ls st h = some (r, h') →
  ∀ (p : Program) (e : Env) (R : Room) (s : State) (mth : MethodId) (args : Array Value) (below : List Frame) (meth : Method) (c : Code) (Q : State → Prop) (A : Nat → Prop) (n0 z0 pc : Nat),
    zCx p R s mth args meth c D ca A base n0 m → zXt ext s A b → m < 275 → zck (zow m) (zini m) (zby m) pc is = true → d + 1 ≤ R.frames → 200 + 60 * d ≤ R.locals → h'.1.length - n0 ≤ R.cells → zsl h'.1 - z0 ≤ R.slots →
    zEnd p l e R s mth args below meth c Q D ca A base b n0 z0 m r h' → zGo p l e R s mth args below meth c Q D ca A base b n0 z0 m pc ls st h
/-- the blocks are right -/
theorem zpg_ck {L : Int} (hm : m < 275) (hL : 0 ≤ L) : zck (zow m) (zini m) (zby m) L.toNat (zpg m L) = true := by
  unfold zpg
  cases hq : (zbl m).lookup L with
  | none =>
    simp only [Option.getD_none]
    rfl
  | some is =>
    have h1 := List.all_eq_true.mp (zck_all m hm) _ (z_lookup hq)
    simp only [Bool.and_eq_true] at h1
    exact h1.2
theorem zmt_at {k : Nat} (hk : k < 274) : ∃ e : zMT, zmt[k]? = some e ∧ e ∈ zmt ∧ zeok e = true ∧ zby k = e.2.1 ∧ zow k = e.2.2.2.2.2.2 ∧ zml k = e.2.2.1 ∧ zini k = (e.2.2.2.2.2.1 == 2) ∧ zyn k = e.1 ∧ zmi k = (e.2.2.2.2.1, e.2.2.2.2.2.1, e.2.2.2.2.2.2, e.2.2.1) := by
  have hk2 : k < zmt.length := by rw [zmt_len]; exact hk
  have he : zmt[k]? = some zmt[k] := List.getElem?_eq_getElem hk2
  refine ⟨zmt[k], he, List.getElem_mem hk2, List.all_eq_true.mp zmt_ok _ (List.getElem_mem hk2), ?_, ?_, ?_, ?_, ?_, ?_⟩
  · simp [zby, he]
  · simp [zow, he]
  · simp [zml, he]
  · simp [zini, he]
  · simp [zyn, List.getD_eq_getElem?_getD, he]
  · simp [zmi, he]
theorem zlg_len : ∀ (as : List zV), (lg_sl (as.map (ztv base b))).length = as.length
  | [] => rfl
  | v :: as => by
    have ih := zlg_len as
    unfold lg_sl at ih ⊢
    rw [List.map_cons, List.flatMap_cons, if_neg (by rw [zlv_cat]; decide), List.length_append, ih]
    simp
    omega
theorem zlv_junk : ∀ (n i : Nat), zlv base b i (List.replicate n (.inr none)) = []
  | 0, i => rfl
  | n + 1, i => by
    rw [List.replicate_succ]
    unfold zlv
    rw [if_pos rfl]
    exact zlv_junk n (i + 1)
theorem zlv_args : ∀ (as : List zV) (n i : Nat) (q : Nat × Value), q ∈ zlv base b i (as ++ List.replicate n (.inr none)) → q ∈ lv_args i (as.map (ztv base b))
  | [], n, i, q, hq => by
    rw [List.nil_append, zlv_junk] at hq
    cases hq
  | v :: as, n, i, q, hq => by
    rw [List.cons_append] at hq
    unfold zlv at hq
    rw [List.map_cons]
    unfold lv_args
    rw [if_neg (by rw [zlv_cat]; decide)]
    split at hq
    · exact List.mem_cons_of_mem _ (zlv_args as n (i + 1) q hq)
    · rcases List.mem_cons.mp hq with rfl | hq
      · exact List.mem_cons_self
      · exact List.mem_cons_of_mem _ (zlv_args as n (i + 1) q hq)
theorem zret_ok {e : zMT} (he : e ∈ zmt) : e.2.2.2.1 = none ∨ e.2.2.2.1 = some .int ∨ e.2.2.2.1 = some .boolean ∨ e.2.2.2.1 = some (.object RX5) := by
  have h0 : zmt.all (fun e => decide (e.2.2.2.1 = none) || (decide (e.2.2.2.1 = some .int) || (decide (e.2.2.2.1 = some .boolean) || decide (e.2.2.2.1 = some (.object RX5))))) = true := by decide +kernel
  have h1 := List.all_eq_true.mp h0 e he
  simpa only [Bool.or_eq_true, decide_eq_true_eq] using h1
def zrt (t : Option FieldType) : Nat := match t with
  | none => 0
  | some .int => 1
  | some .boolean => 2
  | some _ => 3
theorem zrk_at {k : Nat} {e : zMT} (he : zmt[k]? = some e) : zrk k = zrt e.2.2.2.1 := by
  unfold zrk
  rw [he]
  rfl
theorem zeok_at {e : zMT} (h : zeok e = true) : e.2.2.2.2.2.2 < 8 ∧ e.1.cls = zcn e.2.2.2.2.2.2 ∧ (e.1.cls ≠ "java/lang/invoke/MethodHandle" ∧ e.1.cls ≠ "java/lang/invoke/VarHandle") ∧ plainName e.1.cls = true ∧ (parseMethodDescriptor e.1.desc).map (fun d => d.parameters.length) = some (if e.2.2.2.2.2.1 = 0 then e.2.2.2.2.1 else e.2.2.2.2.1 - 1) ∧ e.2.2.1 ≤ 30 ∧ e.2.2.2.2.1 ≤ e.2.2.1 ∧
    (e.2.2.2.2.2.1 ≠ 0 → 1 ≤ e.2.2.2.2.1) ∧ (e.2.2.2.2.2.1 = 2 → e.1.name = "<init>" ∧ e.2.2.2.1 = none) ∧ e.2.2.2.2.2.1 ≤ 2 := by
  unfold zeok at h
  simp only [Bool.and_eq_true, decide_eq_true_eq] at h
  obtain ⟨⟨⟨⟨⟨⟨⟨⟨⟨⟨a1, a2⟩, a3⟩, a4⟩, a5⟩, a6⟩, a7⟩, a8⟩, a9⟩, a10⟩, a11⟩ := h
  refine ⟨a1, a2, ⟨a3, a4⟩, a5, a6, a7, a8, fun q => ?_, fun q => ?_, a11⟩
  · rw [if_neg q] at a9
    simpa using a9
  · rw [if_pos q] at a10
    simpa using a10
/-- a method's contract out of its run -/
theorem z_met {n : Nat} (hrun : zRun l D ca base b n) {d k : Nat} {as : List zV} {h h' : zH} {r : Option zV} (hk : k < 274) (hz : zx n d none k (zpg k 0) (zpad as (zml k)) [] h = some (r, h')) (hzi : ∀ o j, zI (h.2.1 o j)) (hle : h.1.length ≤ 1000000) (has : ∀ v ∈ as, zVI v) (hal : as.length ≤ zml k) {ee : zMT} (hee : zmt[k]? = some ee) :
    Met l ee.1 (zcw ee :: zgw) (zrm d (h'.1.length - h.1.length) (zsl h'.1 - zsl h.1)) (zPc D ca base b as h) (zQc D ca base b h r h' (va_A (ztw ca base b h) (base + h.1.length))) (h'.1.length - h.1.length) (zsl h'.1 - zsl h.1) (va_A (ztw ca base b h) (base + h.1.length)) := by
  obtain ⟨e2, he2, hmem, hok, t1, t2, t3, t4, t5, t6⟩ := zmt_at hk
  cases hee.symm.trans he2
  obtain ⟨o1, o2, o3, o4, o5, o6, o7, o8, o9, o10⟩ := zeok_at hok
  refine Met.ofW (cc := ee.2.1) (maxL := ee.2.2.1) (ret := ee.2.2.2.1) o4 rfl ?_
  intro p e s m args below meth c s₁ B hml hv
  obtain ⟨rfl, hsz, hP, hK, hD0, hN, hO⟩ := hv
  have hx := B.exec
  have hb := B.bytes
  have hr := B.returns
  have hlk := B.notSynchronized
  have hts0 := atoms_spec (ws := zcw ee :: zgw) B.pre
  have hts : ∀ w ∈ zgw, w.before (as.map (ztv base b)).toArray s = true := fun w hw => hts0 w (List.mem_cons_of_mem _ hw)
  have hown : s.vm.findClass ee.1.cls = some m.cls := findClass_of_methodNamed B.named
  have hD := hD0.self (sz := base + h.1.length)
  generalize hAe : va_A (ztw ca base b h) (base + h.1.length) = A at hD ⊢
  have hA : ∀ q : Nat, s.heap.size ≤ q → A q := fun q g => by rw [← hAe]; exact Or.inr (by rw [← hsz]; exact g)
  have hl := lv_entry (as.map (ztv base b)) (n := ee.2.2.1) (by rw [zlg_len, ← t3]; exact hal)
  rw [lg_entry_eq]
  generalize (lg_sl (as.map (ztv base b)) ++ List.replicate (ee.2.2.1 - (lg_sl (as.map (ztv base b))).length) Slot.unset).toArray = lsA at hl ⊢
  have CX : zCx p (headSpec (zcw ee :: zgw) (zrm d (h'.1.length - h.1.length) (zsl h'.1 - zsl h.1))).room s m (as.map (ztv base b)).toArray meth c D ca A base h.1.length k :=
    ⟨hx, by rw [t1]; exact hb, by rw [t3]; exact hml, by rw [t2, ← o2]; exact hown, hts, ⟨hN, hO⟩, hK, fun q => by
      rw [t4] at q
      have q2 : ee.2.2.2.2.2.1 = 2 := by simpa using q
      rw [(name_of_methodNamed B.named B.method).1]
      exact (o9 q2).1, hA, hsz, hlk, Nat.succ_le_succ (Nat.zero_le _), Nat.le_add_right _ _⟩
  have hgo := hrun d none k (zpg k 0) (zpad as (zml k)) [] h h' r hz p e (headSpec (zcw ee :: zgw) (zrm d (h'.1.length - h.1.length) (zsl h'.1 - zsl h.1))).room s m (as.map (ztv base b)).toArray below meth c
    (MQ below (zQc D ca base b h r h' A) (as.map (ztv base b)).toArray s (h'.1.length - h.1.length) (zsl h'.1 - zsl h.1) A) A h.1.length (zsl h.1) 0 CX trivial (by omega) (by have := zpg_ck (m := k) (L := 0) (by omega) (by decide); simpa using this) (Nat.le_refl _) (Nat.le_refl _) (Nat.le_refl _) (Nat.le_refl _) ?_
  · have k2 := hgo s.heap [] lsA ⟨hP, hD, va_S.rf, hle, hzi, Nat.le_refl _, Nat.le_refl _⟩ (by
      rw [t3]
      exact ⟨hl.1, hl.2.1, fun q hq => hl.2.2 q (zlv_args _ _ _ _ hq)⟩) (by unfold zpad; simp; omega) (by
      intro v hv
      unfold zpad at hv
      rcases List.mem_append.mp hv with g | g
      · exact has v g
      · rw [List.eq_of_mem_replicate g]
        exact trivial) (fun v hv => by cases hv)
    rw [Nat.sub_self, Nat.sub_self] at k2
    exact k2
  · intro pc ls hd hrr H locs lsA' hW hl' hn' h1' h2'
    obtain ⟨wP, wD, wS, wle, wzi, wn, wz⟩ := hW
    have hrv : ∀ v ∈ r, zVI v := fun v hv => h2' v (by simpa using hv)
    have hq : ∀ t : State, t.heap = H → s.WarmedH t.vm → zQc D ca base b h r h' A (as.map (ztv base b)).toArray s (.returned (r.map (ztv base b))) t := fun t ht _ => ⟨rfl, ⟨by rw [ht]; exact wP, wD, wle, wzi, wn, wz, hrv⟩, wS.F ht⟩
    have hty := zret_ok hmem
    rcases r with _ | a | _ | o
    · have hd2 : decode ee.2.1 pc = .ok (.return_, 1) := by rw [← t1]; exact hd
      have hrn : ee.2.2.2.1 = none := by
        have q : zrk k = 0 := hrr
        rw [zrk_at he2] at q
        rcases hty with z | z | z | z <;> rw [z] at q <;> first | exact z | (simp [zrt] at q)
      exact W.vret hx hb (by rw [hr, hrn]) hq wS.2.2 hd2 hlk
    · have hd2 : decode ee.2.1 pc = .ok (.ireturn, 1) := by rw [← t1]; exact hd
      have q : zrk k = 1 ∨ (zrk k = 2 ∧ (a = 0 ∨ a = 1)) := hrr
      rw [zrk_at he2] at q
      rcases q with q | ⟨q, ha⟩
      · have hrn : ee.2.2.2.1 = some .int := by
          rcases hty with z | z | z | z <;> rw [z] at q <;> first | exact z | (simp [zrt] at q)
        exact W.iret hx hb (by rw [hr, hrn]) hq wS.2.2 hd2 hlk
      · have hrn : ee.2.2.2.1 = some .boolean := by
          rcases hty with z | z | z | z <;> rw [z] at q <;> first | exact z | (simp [zrt] at q)
        exact W.zret (ty := .boolean) hx hb (by rw [hr, hrn]) (by rcases ha with rfl | rfl <;> rfl) hq wS.2.2 hd2 hlk
    · exact absurd hrr (fun q => q)
    · have hd2 : decode ee.2.1 pc = .ok (.areturn, 1) := by rw [← t1]; exact hd
      have q : zrk k = 3 := hrr
      rw [zrk_at he2] at q
      have hrn : ee.2.2.2.1 = some (.object RX5) := by
        rcases hty with z | z | z | z <;> rw [z] at q <;> first | exact z | (simp [zrt] at q)
      exact W.aret hx hb (by rw [hr, hrn]) (Or.inl ⟨_, rfl⟩) (Or.inr ⟨_, rfl⟩) hq wS.2.2 hd2 hlk
end ZQ
