/-! THE SOUNDNESS: what zx computes, the real machine does: by induction on the fuel -/
section ZB
variable {p : Program} {l : Launch} {e : Env} {R : Room} {s : State} {mth : MethodId} {args : Array Value} {below : List Frame} {meth : Method} {c : Code} {Q : State → Prop} {D : va_G} {ca : zC3} {A : Nat → Prop} {base b n0 z0 m pc : Nat} {ext : zE} {ls st ls' st' : List zV} {h h' : zH}
theorem zlk_lt : ∀ x ∈ zlk, x.2 < 274 := by decide +kernel
theorem zlkN_lt : ∀ x ∈ zlkN, x.2 < 274 := by decide +kernel
theorem zg_lkN {x : (Nat × Nat) × Nat} (hx : x ∈ zlkN) : zwLN x ∈ zwLkN := List.mem_map_of_mem hx
/-- the call itself -/
theorem zcallrun {k mc ms : Nat} {raw : Instr} {as : List zV} {r1 : Option zV} {h1 : zH} {d : Nat} {ee : zMT} (CX : zCx p R s mth args meth c D ca A base n0 m) (hk : k < 274) (hee : zmt[k]? = some ee) (hd : decode (zby m) pc = .ok (raw, 3))
    (hraw : (∃ x, raw = .invokevirtual x ∧ zlk.lookup (zow m, x) = some k ∧ zkd k = 1) ∨ (∃ x, raw = .invokestatic x ∧ (zlk.lookup (zow m, x) = some k ∨ zlkN.lookup (zow m, x) = some k) ∧ zkd k = 0) ∨ ∃ x, raw = .invokespecial x ∧ (zlk.lookup (zow m, x) = some k ∨ zlkN.lookup (zow m, x) = some k) ∧ zkd k = 2)
    (hM : Met l ee.1 (zcw ee :: zgw) (zrm d mc ms) (zPc D ca base b as h) (zQc D ca base b h r1 h1 (va_A (ztw ca base b h) (base + h.1.length))) mc ms (va_A (ztw ca base b h) (base + h.1.length)))
    (hfr2 : d + 2 ≤ R.frames) (hlo2 : 200 + 60 * (d + 1) ≤ R.locals) {H : Heap} {locs : List Loc} {lsA : Array Slot} {rest : List zV} {cells slots : Nat} (hW : zWd D ca s A base b n0 z0 h H locs) (hsz : H.size = base + h.1.length) (hn : lsA.size = zml m) (hal : as.length = ee.2.2.2.2.1) (hr8 : rest.length ≤ 8)
    (hrc : zrcv ee.2.2.2.2.2.1 ee.2.2.2.2.2.2 as.head? h = true) (hf : cells + mc ≤ R.cells ∧ slots + ms ≤ R.slots) :
    ∃ a, va_Run p l e R s mth args below meth c H locs cells slots mc ms (F0 mth pc lsA ((as.reverse ++ rest).map (ztv base b))) (rest.map (ztv base b)) (zQc D ca base b h r1 h1 (va_A (ztw ca base b h) (base + h.1.length)) a) (va_A (ztw ca base b h) (base + h.1.length)) := by
  obtain ⟨hx, hb, hml, hown, hts, hnw, hK, hini, hA, hbase, hlk, hfr, hlo⟩ := id CX
  obtain ⟨hP, hD, hS, hle, hzi, hn0, hz0⟩ := id hW
  obtain ⟨e2, he2, hmem, hok, t1, t2, t3, t4, t5, t6⟩ := zmt_at hk
  cases hee.symm.trans he2
  obtain ⟨o1, o2, o3, o4, o5, o6, o7, o8, o9, o10⟩ := zeok_at hok
  have hkd : zkd k = ee.2.2.2.2.2.1 := by unfold zkd; rw [t6]
  have hPc : ∀ U : State, U.heap = H → s.WarmedH U.vm → zPc D ca base b as h (as.map (ztv base b)).toArray U := fun U hU hW' =>
    ⟨rfl, by rw [hU]; exact hsz, by rw [hU]; exact hP, va_K.moved hW'.alike hK, hD.weaken (fun _ _ _ _ => trivial), fun w hw => by
      have h8 := hnw.1 w hw
      obtain ⟨x, -, rfl⟩ := List.mem_map.mp (show w ∈ zlkN.map zwLN from hw)
      exact va_Nw.warmM hW' h8, va_AO.moved hW'.alike hnw.2⟩
  have hws : ∀ w ∈ zcw ee :: zgw, ∀ (a' : Array Value) (U : State), s.WarmedH U.vm → w.before a' U = true := by
    refine pay_in hts (fun w hw => ?_)
    have hw2 : w ∈ zgw := by
      rcases List.mem_cons.mp hw with rfl | hw
      · exact zg_code hmem
      · exact hw
    exact ⟨hw2, good_of_word (List.all_eq_true.mp zgw_good w hw2)⟩
  have hcode : (Cond.code ee.1 ee.2.1 ee.2.2.1 ee.2.2.2.1).before args s = true := hts _ (zg_code hmem)
  have hin : (Cond.initialized ee.1.cls).before args s = true := by rw [o2]; exact hts _ (zg_ini o1)
  have hn8 : ((rest.map (ztv base b)).map fun v => v.category).sum ≤ 8 := by rw [zsum8]; exact hr8
  have hlnk : ∀ x, zlk.lookup (zow m, x) = some k → (Cond.methodLink (zcn (zow m)) x ee.1).before args s = true := fun x q => by
    have h9 := hts _ (zg_lk (z_lookup q))
    unfold zwL at h9
    rw [← t5]
    exact h9
  have hlnkN : ∀ x, zlkN.lookup (zow m, x) = some k → (Cond.methodLinkNest (zcn (zow m)) x ee.1 "BusRanges").before args s = true := fun x q => by
    have h9 := hnw.1 _ (zg_lkN (z_lookup q))
    unfold zwLN at h9
    rw [← t5]
    exact va_Nw.use rfl h9
  have hnp : ∀ n : Nat, (if ee.2.2.2.2.2.1 = 0 then ee.2.2.2.2.1 else ee.2.2.2.2.1 - 1) = n → ∀ sig, parseMethodDescriptor ee.1.desc = some sig → n = sig.parameters.length := fun n hnn sig hsig => by
    rw [hsig] at o5
    rw [← hnn]
    exact (Option.some.inj o5).symm
  have hlen : (as.map (ztv base b)).length = ee.2.2.2.2.1 := by rw [List.length_map]; exact hal
  have hstk : ((as.reverse ++ rest).map (ztv base b)) = (as.map (ztv base b)).reverse ++ rest.map (ztv base b) := by rw [List.map_append, List.map_reverse]
  have hlo3 : 8 + (ee.2.2.1 + 11) + (200 + 60 * d) ≤ R.locals := by omega
  have hfr3 : d + 1 + 1 ≤ R.frames := hfr2
  -- the receiver
  have hrecv : ee.2.2.2.2.2.1 ≠ 0 → ∃ o as', as = .inr (some o) :: as' ∧ h.1[o]? = some (ee.2.2.2.2.2.2 + 3, 0) := by
    intro hk0
    have h8 := o8 hk0
    cases as with
    | nil => simp at hal; omega
    | cons v as' =>
      unfold zrcv at hrc
      split at hrc
      · rename_i hq; exact absurd hq hk0
      · split at hrc
        · rename_i o hv
          simp only [List.head?_cons, Option.some.injEq] at hv
          subst hv
          refine ⟨o, as', rfl, ?_⟩
          simpa using hrc
        · cases hrc
  rcases hraw with ⟨x, rfl, hlk1, hkd1⟩ | ⟨x, rfl, hlk1, hkd1⟩ | ⟨x, rfl, hlk1, hkd1⟩
  · have hk1 : ee.2.2.2.2.2.1 = 1 := by rw [← hkd]; exact hkd1
    have hKd : ∀ w ∈ [Cond.instanceMethod ee.1, Cond.selects ee.1.cls ee.1 ee.1], w.before args s = true := fun w hw => hts w (zg_kind hmem w (by unfold zwK; rw [hk1]; exact hw))
    obtain ⟨o, as', rfl, ho⟩ := hrecv (by omega)
    have hrv := va_recv hK hP (zg_cls o1) (ztw_get (ca := ca) (base := base) (b := b) ho)
    rw [← o2] at hrv
    refine ⟨_, va_runV (C := ee.1.cls) (As := as'.map (ztv base b)) (b := zad base b o) (n := ee.2.2.2.2.1 - 1) ⟨hx, hb, hml, hown, hts⟩ hM ⟨⟨rfl, rfl, hfr3, hlo3, hws, List.mem_cons_self, hcode, hin, o3, hnp _ (by rw [if_neg (by omega)]), hlnk x hlk1⟩, hKd _ (by simp), hKd _ (by simp)⟩ ⟨zPc_blind, by rw [zo_lt hle ho]; exact hrv, hPc⟩ rfl (by rw [List.length_map]; simp at hal; omega) hn (by rw [hstk]; simp [ztv]) (lv_room hn8) hd hf⟩
  · have hk1 : ee.2.2.2.2.2.1 = 0 := by rw [← hkd]; exact hkd1
    have hKd : (Cond.static ee.1).before args s = true := hts _ (zg_kind hmem _ (by unfold zwK; rw [hk1]; simp))
    rcases hlk1 with hlk1 | hlk1
    · exact ⟨_, va_runS (As := as.map (ztv base b)) (n := ee.2.2.2.2.1) ⟨hx, hb, hml, hown, hts⟩ hM ⟨⟨rfl, rfl, hfr3, hlo3, hws, List.mem_cons_self, hcode, hin, o3, hnp _ (by rw [if_pos hk1]), hlnk x hlk1⟩, hKd⟩ ⟨zPc_blind, hPc⟩ rfl hlen hn hstk (lv_room hn8) hd hf⟩
    · exact ⟨_, va_runSN (As := as.map (ztv base b)) (n := ee.2.2.2.2.1) (host := "BusRanges") ⟨hx, hb, hml, hown, hts⟩ hM ⟨⟨⟨rfl, rfl, hfr3, hlo3, hws, List.mem_cons_self⟩, hcode, hin, o3, hnp _ (by rw [if_pos hk1]), hlnkN x hlk1⟩, hKd, trivial⟩ ⟨zPc_blind, hPc⟩ rfl hlen hn hstk (lv_room hn8) hd hf⟩
  · have hk1 : ee.2.2.2.2.2.1 = 2 := by rw [← hkd]; exact hkd1
    have hKd : (Cond.instanceMethod ee.1).before args s = true := hts _ (zg_kind hmem _ (by unfold zwK; rw [hk1]; simp))
    obtain ⟨o, as', rfl, ho⟩ := hrecv (by omega)
    have hret := (o9 hk1).2
    rcases hlk1 with hlk1 | hlk1
    · exact ⟨_, va_runI (As := as'.map (ztv base b)) (b := zad base b o) (n := ee.2.2.2.2.1 - 1) ⟨hx, hb, hml, hown, hts⟩ hM ⟨⟨rfl, rfl, hfr3, hlo3, hws, by rw [← hret]; exact List.mem_cons_self, by rw [← hret]; exact hcode, hin, o3, hnp _ (by rw [if_neg (by omega)]), hlnk x hlk1⟩, (o9 hk1).1, hKd⟩ ⟨zPc_blind, hPc⟩ rfl (by rw [List.length_map]; simp at hal; omega) hn (by rw [hstk]; simp [ztv]) (lv_room hn8) hd hf⟩
    · exact ⟨_, va_runIN (As := as'.map (ztv base b)) (b := zad base b o) (n := ee.2.2.2.2.1 - 1) (host := "BusRanges") ⟨hx, hb, hml, hown, hts⟩ hM ⟨⟨⟨rfl, rfl, hfr3, hlo3, hws, by rw [← hret]; exact List.mem_cons_self⟩, by rw [← hret]; exact hcode, hin, o3, hnp _ (by rw [if_neg (by omega)]), hlnkN x hlk1⟩, (o9 hk1).1, hKd⟩ ⟨zPc_blind, hPc⟩ rfl (by rw [List.length_map]; simp at hal; omega) hn (by rw [hstk]; simp [ztv]) (lv_room hn8) hd hf⟩
/-- a block's first instruction that is no step of zs -/
theorem z_all : ∀ n, zRun l D ca base b n
  | 0 => fun d ext m is ls st h h' r hz => by simp [zx] at hz
  | n + 1 => by
    intro d ext m is ls st h h' r hz p e R s mth args below meth c Q A n0 z0 pc CX XT hm hck hfr hlo hc hs hend
    have ih := z_all n
    cases is with
    | nil => simp [zx] at hz
    | cons i is =>
      have hmono := zx_mono (n + 1) hz
      have hr0 : h.1.length - n0 ≤ R.cells ∧ zsl h.1 - z0 ≤ R.slots := by omega
      rcases zctl_or i with hi | ⟨L, rfl⟩ | ⟨L, rfl⟩ | ⟨cc, L, rfl⟩ | ⟨cc, L, rfl⟩ | ⟨df, lo, hi, offs, rfl⟩ | rfl | rfl | rfl | ⟨k, rfl⟩
      · rcases zck_cons hck with ⟨L, rfl, -⟩ | ⟨raw, len, nn, hd, hcv, hnn, hck2⟩
        · cases hi
        · rw [zx_other hi] at hz
          split at hz
          · rename_i ls1 st1 h1 hq
            have hm2 := zx_mono n hz
            exact zstep_snd CX XT hd hcv hnn hi hq hr0 (by omega) (ih d ext m is ls1 st1 h1 h' r hz p e R s mth args below meth c Q A n0 z0 (pc + len) CX XT hm hck2 hfr hlo hc hs hend)
          · cases hz
      · rcases zck_cons hck with ⟨L2, hL2, -⟩ | ⟨raw, len, nn, hd, hcv, hnn, hck2⟩
        · cases hL2
        · obtain ⟨o, rfl, ho, rfl, rfl⟩ := zcv_goto hcv
          obtain rfl : 3 = len := hnn.resolve_right (by decide)
          simp only [zx] at hz
          have g := ih d ext m _ ls st h h' r hz p e R s mth args below meth c Q A n0 z0 _ CX XT hm (zpg_ck hm ho) hfr hlo hc hs hend
          intro H locs lsA hW hl hn h1 h2
          obtain ⟨hx, hb, hml, hown, hts, hnw, hK, hini, hA, hbase, hlk, hfr, hlo⟩ := id CX
          exact lv_goto (tgt := ((pc : Int) + o).toNat) hx hb hd (by omega) (g H locs lsA hW hl hn h1 h2)
      · simp only [zx] at hz
        rcases zck_cons hck with ⟨L2, hL2, hL3⟩ | ⟨raw, len, nn, hd, hcv, hnn, hck2⟩
        · cases hL2
          subst hL3
          have g := ih d ext m _ ls st h h' r hz p e R s mth args below meth c Q A n0 z0 _ CX XT hm (zpg_ck hm (by omega)) hfr hlo hc hs hend
          simpa using g
        · exact (zcv_goto_w hcv).elim
      · rcases zck_cons hck with ⟨L2, hL2, -⟩ | ⟨raw, len, nn, hd, hcv, hnn, hck2⟩
        · cases hL2
        · obtain ⟨o, rfl, ho, rfl, rfl⟩ := zcv_if hcv
          obtain rfl : 3 = len := hnn.resolve_right (by decide)
          simp only [zx] at hz
          split at hz
          · rename_i a st
            have gt : zcb cc a 0 = true → zGo p l e R s mth args below meth c Q D ca A base b n0 z0 m ((pc : Int) + o).toNat ls st h := fun q => by
              rw [if_pos q] at hz
              exact ih d ext m _ ls st h h' r hz p e R s mth args below meth c Q A n0 z0 _ CX XT hm (zpg_ck hm ho) hfr hlo hc hs hend
            have gf : zcb cc a 0 = false → zGo p l e R s mth args below meth c Q D ca A base b n0 z0 m (pc + 3) ls st h := fun q => by
              rw [if_neg (by rw [q]; decide)] at hz
              exact ih d ext m _ ls st h h' r hz p e R s mth args below meth c Q A n0 z0 _ CX XT hm hck2 hfr hlo hc hs hend
            cases cc with
            | eq => exact zi_if_eq CX hd ho gt gf
            | ne => exact zi_if_ne CX hd ho gt gf
            | lt => exact zi_if_lt CX hd ho gt gf
            | ge => exact zi_if_ge CX hd ho gt gf
            | gt => exact zi_if_gt CX hd ho gt gf
            | le => exact zi_if_le CX hd ho gt gf
          · cases hz
      · rcases zck_cons hck with ⟨L2, hL2, -⟩ | ⟨raw, len, nn, hd, hcv, hnn, hck2⟩
        · cases hL2
        · obtain ⟨o, rfl, ho, rfl, rfl⟩ := zcv_icmp hcv
          obtain rfl : 3 = len := hnn.resolve_right (by decide)
          simp only [zx] at hz
          split at hz
          · rename_i a2 a st
            have gt : zcb cc a a2 = true → zGo p l e R s mth args below meth c Q D ca A base b n0 z0 m ((pc : Int) + o).toNat ls st h := fun q => by
              rw [if_pos q] at hz
              exact ih d ext m _ ls st h h' r hz p e R s mth args below meth c Q A n0 z0 _ CX XT hm (zpg_ck hm ho) hfr hlo hc hs hend
            have gf : zcb cc a a2 = false → zGo p l e R s mth args below meth c Q D ca A base b n0 z0 m (pc + 3) ls st h := fun q => by
              rw [if_neg (by rw [q]; decide)] at hz
              exact ih d ext m _ ls st h h' r hz p e R s mth args below meth c Q A n0 z0 _ CX XT hm hck2 hfr hlo hc hs hend
            cases cc with
            | eq => exact zi_icmp_eq CX hd ho gt gf
            | ne => exact zi_icmp_ne CX hd ho gt gf
            | lt => exact zi_icmp_lt CX hd ho gt gf
            | ge => exact zi_icmp_ge CX hd ho gt gf
            | gt => exact zi_icmp_gt CX hd ho gt gf
            | le => exact zi_icmp_le CX hd ho gt gf
          · cases hz
      · rcases zck_cons hck with ⟨L2, hL2, -⟩ | ⟨raw, len, nn, hd, hcv, hnn, hck2⟩
        · cases hL2
        · obtain ⟨d', offs', rfl, hd0, hoff, hsize, rfl, rfl⟩ := zcv_switch hcv
          simp only [zx] at hz
          split at hz
          · rename_i a st
            by_cases hout : a < lo ∨ hi < a
            · rw [if_pos hout] at hz
              have g := ih d ext m _ ls st h h' r hz p e R s mth args below meth c Q A n0 z0 _ CX XT hm (zpg_ck hm hd0) hfr hlo hc hs hend
              intro H locs lsA hW hl hn h1 h2
              obtain ⟨hx, hb, hml, hown, hts, hnw, hK, hini, hA, hbase, hlk, hfr, hlo⟩ := id CX
              have h3 := List.forall_mem_cons.mp h2
              exact lv_tableOut (tgt := ((pc : Int) + d').toNat) hx hb hd (by rw [z32_toInt h3.1]; exact hout) (by omega) (g H locs lsA hW hl hn h1 h3.2)
            · rw [if_neg hout] at hz
              have hidx : (a - lo).toNat < offs'.size := by omega
              have e1 : (offs'.map (fun o => (pc : Int) + o)).getD (a - lo).toNat (-1) = (pc : Int) + offs'[(a - lo).toNat] := by
                rw [Array.getD_eq_getD_getElem?, Array.getElem?_map, Array.getElem?_eq_getElem hidx]
                rfl
              rw [e1] at hz
              have hpos : 0 ≤ (pc : Int) + offs'[(a - lo).toNat] := hoff _ (by simp)
              have g := ih d ext m _ ls st h h' r hz p e R s mth args below meth c Q A n0 z0 _ CX XT hm (zpg_ck hm hpos) hfr hlo hc hs hend
              intro H locs lsA hW hl hn h1 h2
              obtain ⟨hx, hb, hml, hown, hts, hnw, hK, hini, hA, hbase, hlk, hfr, hlo⟩ := id CX
              have h3 := List.forall_mem_cons.mp h2
              exact lv_tableIn (tgt := ((pc : Int) + offs'[(a - lo).toNat]).toNat) (off := offs'[(a - lo).toNat]) hx hb hd (by rw [z32_toInt h3.1]; omega) (by rw [z32_toInt h3.1]; omega) (by rw [z32_toInt h3.1]; exact Array.getElem?_eq_getElem hidx) (by omega) (g H locs lsA hW hl hn h1 h3.2)
          · cases hz
      · rcases zck_cons hck with ⟨L2, hL2, -⟩ | ⟨raw, len, nn, hd, hcv, hnn, hck2⟩
        · cases hL2
        · obtain ⟨rfl, rfl⟩ := zcv_ireturn hcv
          obtain rfl : 1 = len := hnn.resolve_right (by decide)
          simp only [zx] at hz
          split at hz
          · rename_i a
            split at hz
            · rename_i hrk
              simp only [Option.some.injEq, Prod.mk.injEq] at hz
              obtain ⟨rfl, rfl⟩ := hz
              exact hend pc ls hd hrk
            · cases hz
          · cases hz
      · rcases zck_cons hck with ⟨L2, hL2, -⟩ | ⟨raw, len, nn, hd, hcv, hnn, hck2⟩
        · cases hL2
        · obtain ⟨rfl, rfl⟩ := zcv_areturn hcv
          obtain rfl : 1 = len := hnn.resolve_right (by decide)
          simp only [zx] at hz
          split at hz
          · rename_i a
            split at hz
            · rename_i hrk
              simp only [Option.some.injEq, Prod.mk.injEq] at hz
              obtain ⟨rfl, rfl⟩ := hz
              exact hend pc ls hd hrk
            · cases hz
          · cases hz
      · rcases zck_cons hck with ⟨L2, hL2, -⟩ | ⟨raw, len, nn, hd, hcv, hnn, hck2⟩
        · cases hL2
        · obtain ⟨rfl, rfl⟩ := zcv_return hcv
          obtain rfl : 1 = len := hnn.resolve_right (by decide)
          simp only [zx] at hz
          split at hz
          · split at hz
            · rename_i hrk
              simp only [Option.some.injEq, Prod.mk.injEq] at hz
              obtain ⟨rfl, rfl⟩ := hz
              exact hend pc ls hd hrk
            · cases hz
          · cases hz
      · rcases zck_cons hck with ⟨L2, hL2, -⟩ | ⟨raw, len, nn, hd, hcv, hnn, hck2⟩
        · cases hL2
        · obtain ⟨rfl, hraw⟩ := zcv_call hcv
          obtain rfl : 3 = len := hnn.resolve_right (by decide)
          have hk : k < 274 := by
            rcases hraw with ⟨x, -, q, -⟩ | ⟨x, -, q | q, -⟩ | ⟨x, -, q | q, -⟩
            · exact zlk_lt _ (z_lookup q)
            · exact zlk_lt _ (z_lookup q)
            · exact zlkN_lt _ (z_lookup q)
            · exact zlk_lt _ (z_lookup q)
            · exact zlkN_lt _ (z_lookup q)
          obtain ⟨ee, hee, hmem, hok, t1, t2, t3, t4, t5, t6⟩ := zmt_at hk
          obtain ⟨o1, o2, o3, o4, o5, o6, o7, o8, o9, o10⟩ := zeok_at hok
          cases d with
          | zero => simp [zx] at hz
          | succ d =>
            simp only [zx, t6] at hz
            split at hz
            · rename_i hcnd
              obtain ⟨c1, c2, c3⟩ := hcnd
              split at hz
              · rename_i r1 h1 hq
                have hm1 := zx_mono n hq
                have hm2 := zx_mono n hz
                rw [← t3] at hq
                intro H locs lsA hW hl hn h1' h2'
                obtain ⟨hx, hb, hml, hown, hts, hnw, hK, hini, hA, hbase, hlk, hfr0, hlo0⟩ := id CX
                obtain ⟨hP, hD, hS, hle, hzi, hn0, hz0⟩ := id hW
                have hst : st = (st.take ee.2.2.2.2.1).reverse.reverse ++ st.drop ee.2.2.2.2.1 := by rw [List.reverse_reverse, List.take_append_drop]
                have hal : (st.take ee.2.2.2.2.1).reverse.length = ee.2.2.2.2.1 := by rw [List.length_reverse, List.length_take]; omega
                have hM := z_met ih hk hq hzi hle (fun v hv => h2' v (List.mem_of_mem_take (List.mem_reverse.mp hv))) (by rw [hal, t3]; exact o7) hee
                refine W_size hP hS hbase hn0 (fun hsz => ?_)
                obtain ⟨a, hrun⟩ := zcallrun (below := below) (cells := h.1.length - n0) (slots := zsl h.1 - z0) CX hk hee hd hraw hM (by omega) (by omega) hW hsz hl.1 hal c2 (by rw [List.head?_reverse]; exact c3) (by omega)
                rw [← hst] at hrun
                refine zback hrun hS (fun q hq => ?_) (fun q hq => ?_) ?_
                · rcases hq with ⟨kk, ee2, hq⟩ | hq
                  · exact hD.2 kk (q, ee2) hq
                  · exact hA q (by omega)
                · rcases hq with ⟨kk, ee2, hq⟩ | hq
                  · exact hD.2 kk (q, ee2) hq
                  · exact hA q (by omega)
                · intro H1 locs1 w1 w2 w3 w4 w5 w6 w7 w8
                  refine W.cs (cells' := h1.1.length - n0) (slots' := zsl h1.1 - z0) (by omega) (by omega) ?_
                  have g := ih (d + 1) ext m is ls (zpu r1 (st.drop ee.2.2.2.2.1)) h1 h' r hz p e R s mth args below meth c Q A n0 z0 (pc + 3) CX XT hm hck2 hfr hlo hc hs hend
                  have g2 := g H1 locs1 lsA ⟨w1, w2.weaken (fun kq q _ hq => by
                    rcases hq with ⟨kk, ee2, hq⟩ | hq
                    · exact hD.2 kk (q.1, ee2) hq
                    · exact hA q.1 (by omega)), w8, w3, w4, by omega, by omega⟩ hl hn h1' (by
                    intro v hv
                    unfold zpu at hv
                    split at hv
                    · exact h2' v (List.mem_of_mem_drop hv)
                    · rename_i w
                      rcases List.mem_cons.mp hv with rfl | hv
                      · exact w7 _ rfl
                      · exact h2' v (List.mem_of_mem_drop hv))
                  have e2 : (r1.map (ztv base b)).toList ++ (st.drop ee.2.2.2.2.1).map (ztv base b) = (zpu r1 (st.drop ee.2.2.2.2.1)).map (ztv base b) := by
                    cases r1 <;> rfl
                  rw [e2]
                  exact g2
              · cases hz
            · cases hz
end ZB
