/-! ACTS on one device: bridge, aperture, space -/
section BA
variable {im X Y : zM} {c c' A B : Int → Int} {e f a b p x d sl wh nu un ty k kd dv : Int}
theorem kp172 (hI : Inv gGd im) (hX : ∀ p : Nat, p < 120 ∨ 170 < p → X p = im p) : kp X 172 = im 172 := by rw [kp_far hI (hX 1 (by omega)) (by omega), hX _ (by omega)]
theorem kpHM (hI : Inv gGd im) (hX : ∀ p : Nat, p < 120 ∨ 170 < p → X p = im p) : HM (kp X) := by
  have e171 : kp X 171 = im 171 := by rw [kp_far hI (hX 1 (by omega)) (by omega), hX _ (by omega)]
  have hm := hI.1.2.1
  unfold HM at hm ⊢
  rw [e171]
  exact hm
theorem trlHM (hI : Inv gGd im) : HM (trl im) := by
  have hm := hI.1.2.1
  unfold HM at hm ⊢
  rw [trl_ne (by omega)]
  exact hm
theorem trl172 : trl im 172 = im 172 := trl_ne (by omega)
theorem trl_stay (hI : Inv gGd im) : Inv gGd (trl im) := act_stay hI (fun p hp => trl_ne (by omega)) (trl_ch hI)
theorem sp_bridge : Sp4 99 (Inv gGd) 86 165 := by
  intro im hI a _ sl _ nu _ un _
  have hh := hI.1.1
  have hm := hI.1.2.1
  have hT := trl_GdT hI
  have hg := hT.2.1
  obtain ⟨f1, f2⟩ := frD_eq (a := a) (sl := sl) hT.1.1 hg.1
  refine (c_bridge (d := 88) hh).mpr ?_
  by_cases c0 : nu < 0 ∨ 3 < nu ∨ un < 0 ∨ 128 < un
  · rw [if_pos c0]
    refine ⟨_, rfl, (c_bridgeM (d := 94) hg.1.2.1 hm).mpr ?_⟩
    rw [if_neg (fun q => by omega)]
    exact ⟨rfl, hI⟩
  · rw [if_neg c0]
    by_cases c1 : cpM (im 172) a sl
    · obtain ⟨v1, v2⟩ := fn_vac c1.2.2
      rw [f1 c1, if_neg (by omega)]
      have hN := nw_GdT (wh := 1) (nu := nu) (un := un) hT v1 v2 c1.1.1 c1.1.2.1 c1.1.2.2 c1.2.1 (Or.inr rfl) (by omega) (by omega)
      rw [show (1 : Int) + 1 = 2 from rfl] at hN
      have hX : ∀ p : Nat, p < 120 ∨ 170 < p → setc (pln (trl im) (fnM (im 172)) 2 a sl) 121 (nwc (trl im 121) (fnM (im 172)) 2 a sl nu un) p = im p := fun p hp => by
        rw [setc_ne _ _ (by omega), pln_ne (by omega), trl_ne (by omega)]
      have hK := act_keep hI hX (by rw [setc_ne _ _ (by omega), pln_ne (by omega)]; exact trl_ch hI) hN
      have e172 := kp172 hI hX
      have eHM := kpHM hI hX
      show ∃ v : Int, _ = some (Sum.inl v) ∧ CallP 99 165 _ (kp (setc (pln (trl im) (fnM (im 172)) 2 a sl) 121 (nwc (trl im 121) (fnM (im 172)) 2 a sl nu un))) _
      generalize kp (setc (pln (trl im) (fnM (im 172)) 2 a sl) 121 (nwc (trl im 121) (fnM (im 172)) 2 a sl nu un)) = Y at hK e172 eHM ⊢
      refine ⟨_, rfl, (c_bridgeM (d := 94) (by rw [e172]; exact hg.1.2.1) eHM).mpr ?_⟩
      rw [e172, if_pos ⟨c1, by omega, by omega⟩]
      exact ⟨rfl, hK⟩
    · rw [f2 c1, if_pos rfl]
      refine ⟨_, rfl, (c_bridgeM (d := 94) (by rw [trl172]; exact hg.1.2.1) (trlHM hI)).mpr ?_⟩
      rw [trl172, if_neg (fun q => c1 q.1)]
      exact ⟨rfl, trl_stay hI⟩
/-- a device's row of bounds -/
def MGr (A : Int → Int) (e : Int) : Prop := (0 ≤ A (23 * e + 1) ∧ A (23 * e + 1) ≤ 1) ∧ (-1 ≤ A (23 * e + 2) ∧ A (23 * e + 2) ≤ 19) ∧ (0 ≤ A (23 * e + 3) ∧ A (23 * e + 3) ≤ 7) ∧ (0 ≤ A (23 * e + 4) ∧ A (23 * e + 4) ≤ 1) ∧ (0 ≤ A (23 * e + 5) ∧ A (23 * e + 5) ≤ 3) ∧ (∀ a : Int, 0 ≤ a → a < 3 → (0 ≤ A (23 * e + (6 + a)) ∧ A (23 * e + (6 + a)) ≤ 1) ∧ (0 ≤ A (23 * e + (9 + a)) ∧ A (23 * e + (9 + a)) ≤ 256) ∧ (-1 ≤ A (23 * e + (12 + a)) ∧ A (23 * e + (12 + a)) ≤ 1024)) ∧ (0 ≤ A (23 * e + 15) ∧ A (23 * e + 15) ≤ 3) ∧ (0 ≤ A (23 * e + 16) ∧ A (23 * e + 16) ≤ 128) ∧ (-1 ≤ A (23 * e + 17) ∧ A (23 * e + 17) ≤ 31) ∧ (-1 ≤ A (23 * e + 18) ∧ A (23 * e + 18) ≤ 31) ∧ (∀ k : Int, 0 ≤ k → k < 2 → (-1 ≤ A (23 * e + (19 + k)) ∧ A (23 * e + (19 + k)) ≤ 1024) ∧ (0 ≤ A (23 * e + (21 + k)) ∧ A (23 * e + (21 + k)) ≤ 1024))
/-- a row is as it was -/
def Rw (A B : Int → Int) (e : Int) : Prop := ∀ f : Int, 0 ≤ f → f < 23 → B (23 * e + f) = A (23 * e + f)
theorem MGr_rw (h : Rw A B e) (g : MGr A e) : MGr B e := by
  unfold MGr at g ⊢
  rw [h 1 (by omega) (by omega), h 2 (by omega) (by omega), h 3 (by omega) (by omega), h 4 (by omega) (by omega), h 5 (by omega) (by omega), h 15 (by omega) (by omega), h 16 (by omega) (by omega), h 17 (by omega) (by omega), h 18 (by omega) (by omega)]
  obtain ⟨m1, m2, m3, m4, m5, m6, m7, m8, m9, m10, m11⟩ := g
  refine ⟨m1, m2, m3, m4, m5, fun a' a0 a1 => ?_, m7, m8, m9, m10, fun k k0 k1 => ?_⟩
  · rw [h _ (by omega) (by omega), h _ (by omega) (by omega), h _ (by omega) (by omega)]
    exact m6 a' a0 a1
  · rw [h _ (by omega) (by omega), h _ (by omega) (by omega)]
    exact m11 k k0 k1
theorem MG_frame (hM : MG A) (h : ∀ e : Int, 0 ≤ e → e < 20 → Rw A B e ∨ MGr B e) : MG B := fun e e0 e1 => (h e e0 e1).elim (fun q => MGr_rw q (hM e e0 e1)) id
/-- a device's cells on both sides -/
def SmR (c A : Int → Int) (e : Int) : Prop := (A (23 * e + 1) = 0 ∨ A (23 * e + 1) = 1) ∧ (A (23 * e + 4) = 0 ∨ A (23 * e + 4) = 1) ∧ (A (23 * e + 0) = 1 → SimD c A e) ∧ (A (23 * e + 0) ≠ 1 → gt c e 0 = 0 ∧ gt c e 3 ≠ 1)
theorem SmR_rw (hM : MGr A e) (h : Rw A B e) (hg : ∀ f : Int, gt c' e f = gt c e f) (g : SmR c A e) : SmR c' B e := by
  unfold SmR SimD at g ⊢
  simp only [hg]
  rw [h 0 (by omega) (by omega), h 1 (by omega) (by omega), h 2 (by omega) (by omega), h 3 (by omega) (by omega), h 4 (by omega) (by omega), h 5 (by omega) (by omega), h 15 (by omega) (by omega), h 16 (by omega) (by omega), h 17 (by omega) (by omega), h 18 (by omega) (by omega)]
  obtain ⟨q1, q2, q3, q4⟩ := g
  refine ⟨q1, q2, fun ht => ?_, q4⟩
  obtain ⟨d1, d2, d3, d4, d5, d6, d7, d8, d9⟩ := q3 ht
  have h6 := hM.2.2.2.2.1
  refine ⟨d1, d2, d3, d4, d5, d6, d7, fun a a0 a1 => ?_, fun hb => ⟨(d9 hb).1, fun ho => ?_⟩⟩
  · rw [h _ (by omega) (by omega), h _ (by omega) (by omega), h _ (by omega) (by omega)]
    exact d8 a a0 a1
  · obtain ⟨b1, b2, b3⟩ := (d9 hb).2 ho
    refine ⟨b1, b2, fun k k0 k1 => ?_⟩
    rw [h _ (by omega) (by omega), h _ (by omega) (by omega)]
    exact b3 k k0 k1
theorem SimC_frame (hs : SimC c A) (hM : MG A) (h : ∀ e : Int, 0 ≤ e → e < 20 → (Rw A B e ∧ ∀ f : Int, gt c' e f = gt c e f) ∨ SmR c' B e) : SimC c' B := fun e e0 e1 => (h e e0 e1).elim (fun q => SmR_rw (hM e e0 e1) q.1 q.2 (hs e e0 e1)) id
/-- bounds of a device's cells -/
def Clr (c : Int → Int) (e : Int) : Prop := (0 ≤ gt c e 6 ∧ gt c e 6 ≤ 3) ∧ (0 ≤ gt c e 4 ∧ gt c e 4 ≤ 3) ∧ (0 ≤ gt c e 5 ∧ gt c e 5 ≤ 128) ∧ (0 ≤ gt c e 2 ∧ gt c e 2 ≤ 7) ∧ (gt c e 0 = 0 → gt c e 3 = 0 ∧ gt c e 6 = 0) ∧ (∀ a : Int, 0 ≤ a → a < 3 → (0 ≤ gt c e (12 + a) ∧ gt c e (12 + a) ≤ 256) ∧ (-1 ≤ gt c e (15 + a) ∧ gt c e (15 + a) ≤ 1024) ∧ (a < gt c e 6 → 1 ≤ gt c e (12 + a))) ∧ (∀ k : Int, 0 ≤ k → k < 2 → (-1 ≤ gt c e (18 + k) ∧ gt c e (18 + k) ≤ 1024) ∧ (0 ≤ gt c e (20 + k) ∧ gt c e (20 + k) ≤ 1024) ∧ (0 < gt c e 0 → gt c e 3 ≠ 1 → gt c e (18 + k) = -1 ∧ gt c e (20 + k) = 0))
theorem Cls_frame (hC : Cls c) (h : ∀ e : Int, 0 ≤ e → e < 20 → (∀ f : Int, gt c' e f = gt c e f) ∨ Clr c' e) : Cls c' := by
  intro e e0 e1
  rcases h e e0 e1 with q | q
  · simp only [q]
    exact hC e e0 e1
  · exact q
/-- the tree's shape is as it was -/
def Sh4 (A B : Int → Int) : Prop := ∀ e f : Int, 0 ≤ e → e < 20 → 0 ≤ f → f < 4 → B (23 * e + f) = A (23 * e + f)
theorem Sh4_th (h : Sh4 A B) : thM B e ↔ thM A e := by
  unfold thM
  constructor
  · exact fun q => ⟨q.1, q.2.1, by rw [← h e 0 q.1 (by omega) (by omega) (by omega)]; exact q.2.2⟩
  · exact fun q => ⟨q.1, q.2.1, by rw [h e 0 q.1 (by omega) (by omega) (by omega)]; exact q.2.2⟩
theorem Sh4_br (h : Sh4 A B) : brM B e ↔ brM A e := by
  constructor
  · exact fun q => ⟨(Sh4_th h).mp q.1, by rw [← h e 1 q.1.1 (th_rg q.1).2 (by omega) (by omega)]; exact q.2⟩
  · exact fun q => ⟨(Sh4_th h).mpr q.1, by rw [h e 1 q.1.1 (th_rg q.1).2 (by omega) (by omega)]; exact q.2⟩
theorem Sh4_ep (h : Sh4 A B) : epM B e ↔ epM A e := by
  constructor
  · exact fun q => ⟨(Sh4_th h).mp q.1, by rw [← h e 1 q.1.1 (th_rg q.1).2 (by omega) (by omega)]; exact q.2⟩
  · exact fun q => ⟨(Sh4_th h).mpr q.1, by rw [h e 1 q.1.1 (th_rg q.1).2 (by omega) (by omega)]; exact q.2⟩
theorem gS_of (h : Sh4 A B) (g : gS A) : gS B := by
  obtain ⟨hu, hp, hs⟩ := g
  refine ⟨fun e e0 e1 he => ?_, fun e he => ?_, fun e f he hf h1 h2 => ?_⟩
  · have ht : thM A e := (Sh4_th h).mp ⟨e0, by omega, he⟩
    exact up_frame hp (fun x hx => ⟨h x 2 hx.1 (th_rg hx).2 (by omega) (by omega), h x 3 hx.1 (th_rg hx).2 (by omega) (by omega)⟩) 5 e (Or.inr ht) (hu e e0 e1 ht.2.2)
  · rw [h e 2 he.1 (th_rg he).2 (by omega) (by omega)]
    exact (hp e ((Sh4_th h).mp he)).imp id (fun q => (Sh4_br h).mpr q)
  · rw [h e 2 he.1 (th_rg he).2 (by omega) (by omega), h f 2 hf.1 (th_rg hf).2 (by omega) (by omega)] at h1
    rw [h e 3 he.1 (th_rg he).2 (by omega) (by omega), h f 3 hf.1 (th_rg hf).2 (by omega) (by omega)] at h2
    exact hs e f ((Sh4_th h).mp he) ((Sh4_th h).mp hf) h1 h2
theorem gT_of (h : Sh4 A B) (g : gT A) (hM : MG B) (h462 : 0 ≤ B 462 ∧ B 462 ≤ 20) (hsp : gSp B) (hbr : gBr B) (hsz : gSz B) (hew : gEw B) : gT B := by
  obtain ⟨s1, s2, s3⟩ := gS_of h (gT_S g)
  exact ⟨hM, s1, h462, hsp, s2, s3, hbr, hsz, hew⟩
/-- the walk is as it was -/
theorem wk_Sh4 (h : Sh4 A B) (g : gS A) : (wkA B).2 = (wkA A).2 ∧ ∀ i : Int, 0 ≤ i → i < (wkA A).2 → (wkA B).1 i = (wkA A).1 i := by
  have hb := wkA_bd (A := A)
  have hb' := wkA_bd (A := B)
  have e : dfs B 5 (-1) = dfs A 5 (-1) := by
    have hpm : ∀ a s, pM B a s = pM A a s := fun a s => ff_congr 20 0 (fun j j0 j1 => by
      unfold isM
      refine decide_eq_decide.mpr ?_
      rw [Sh4_th h, h j 2 j0 (by omega) (by omega) (by omega), h j 3 j0 (by omega) (by omega) (by omega)])
    have key : ∀ (n : Nat) (a : Int), dfs B n a = dfs A n a := by
      intro n
      induction n with
      | zero => exact fun _ => rfl
      | succ n ih =>
        intro a
        simp only [dfs, hpm, ih]
        refine congrArg (fun g => (rgL 0 8).flatMap g) (funext fun s => ?_)
        rcases pM_cases A a s with q | ⟨q, -, -⟩
        · rw [if_pos q, if_pos q]
        · rw [h _ 1 q.1 (th_rg q).2 (by omega) (by omega)]
    exact key 5 (-1)
  rw [← wk_dfs (gS_of h g), ← wk_dfs g] at e
  obtain ⟨i1, i2⟩ := lsO_inj hb'.1 hb.1 e
  exact ⟨i1, fun i j0 j1 => i2 i j0 (by omega)⟩
theorem zshl_pow {x : Int} (h : 0 ≤ x ∧ x ≤ 8) : ∃ n : Nat, n ≤ 8 ∧ x = n ∧ zshl 1 x = 2 ^ n := by
  obtain ⟨k, rfl⟩ : ∃ k : Nat, x = k := ⟨x.toNat, by omega⟩
  refine ⟨k, by omega, rfl, ?_⟩
  rw [zshl_nat k (by omega), Nat.one_shiftLeft]
  simp
theorem pow_le8 : ∀ n : Nat, n ≤ 8 → 1 ≤ (2 : Int) ^ n ∧ (2 : Int) ^ n ≤ 256 := by decide
/-- the state after an aperture was added -/
theorem ap_rw (hM : MG A) (hd : 0 ≤ d ∧ d < 20) (hm : A (23 * d + 5) ≠ 3) (he : e ≠ d) : Rw A (apA A d kd x) e := fun f f0 f1 => by
  have h5 := (hM d hd.1 hd.2).2.2.2.2.1
  unfold apA
  rw [ups_ne _ _ (by omega), ups_ne _ _ (by omega), ups_ne _ _ (by omega)]
theorem ap_far {j : Int} (hM : MG A) (hd : 0 ≤ d ∧ d < 20) (hm : A (23 * d + 5) ≠ 3) (hj : j < 23 * d ∨ 23 * d + 23 ≤ j) : apA A d kd x j = A j := by
  have h5 := (hM d hd.1 hd.2).2.2.2.2.1
  unfold apA
  rw [ups_ne _ _ (by omega), ups_ne _ _ (by omega), ups_ne _ _ (by omega)]
end BA
