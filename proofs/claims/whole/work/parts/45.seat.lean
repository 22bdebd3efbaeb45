/-! THE CLASS'S PLACER: finding a row, seating -/
section PS
variable {d s t u o : Nat} {im : zM} {Q : Option zV → zM → Prop} {a b v dv kd sl i j f : Int}
def ChB (ch : Int → Int) : Prop := ∀ j : Int, 0 ≤ j → j < 3 → 0 ≤ ch j ∧ ch j ≤ 100
theorem ChB_ups {ch : Int → Int} (h : ChB ch) (hv : 0 ≤ v ∧ v ≤ 100) : ChB (ups ch i v) := by
  intro j h0 h1
  by_cases e : j = i
  · rw [e, ups_at]
    exact hv
  · rw [ups_ne _ _ e]
    exact h j h0 h1
theorem nrf_bd : ∀ (n : Nat) (j : Int) (ch : Int → Int), 1 ≤ j → j + n ≤ 3 → ChB ch → ch (j - 1) ≤ 60 + j → ChB (lp nrf n j ch)
  | 0, j, ch, _, _, h, _ => h
  | n + 1, j, ch, h0, h1, h, hb => by
    have := h (j - 1) (by omega) (by omega)
    exact nrf_bd n (j + 1) (nrf j ch) (by omega) (by omega) (ChB_ups h (by omega)) (by
      unfold nrf
      rw [show j + 1 - 1 = j by omega, ups_at]
      omega)
theorem nrI_bd {len M : Int} (hl : 0 ≤ len) (hM : M ≤ 27) : ∀ (n : Nat) (ch : Int → Int), n ≤ 3 → (n : Int) ≤ len → ChB ch → ChB (nrI len M n ch).2 ∧ ((nrI len M n ch).1 = 0 ∨ (nrI len M n ch).1 = 1)
  | 0, ch, _, _, h => ⟨h, Or.inl rfl⟩
  | n + 1, ch, h1, h2, h => by
    have hc := h n (by omega) (by omega)
    simp only [nrI]
    split
    · refine ⟨nrf_bd _ _ _ (by omega) (by omega) (ChB_ups h (by omega)) ?_, Or.inr rfl⟩
      rw [show (n : Int) + 1 - 1 = n by omega, ups_at]
      omega
    · exact nrI_bd hl hM n ch (by omega) (by omega) h
theorem nrS_bd {len M : Int} {ch : Int → Int} (hl : 0 ≤ len) (hM : M ≤ 27) (h : ChB ch) : ChB (nrS len M ch).2 ∧ ((nrS len M ch).1 = 0 ∨ (nrS len M ch).1 = 1) := nrI_bd hl hM _ ch (by omega) (by omega) h
theorem ldS_01 {bg en : Int} : ∀ (n : Nat) (i : Int) (y : zSS × zSS), (ldS bg en n i y).1 = 0 ∨ (ldS bg en n i y).1 = 1
  | 0, _, _ => Or.inr rfl
  | n + 1, i, y => by
    simp only [ldS]
    split
    · exact Or.inl rfl
    · exact ldS_01 n _ _
theorem ldS_L {bg en : Int} : ∀ (n : Nat) (i : Int) (y : zSS × zSS), (ldS bg en n i y).2.2 = (y.2.1, y.2.2.1, y.2.2.2.1, y.2.2.2.2.1, (ldS bg en n i y).2.2.2.2.2.2.1, y.2.2.2.2.2.2)
  | 0, _, _ => rfl
  | n + 1, i, y => by
    simp only [ldS]
    split
    · rfl
    · exact ldS_L n _ _
theorem SA_ld {bg en : Int} (n : Nat) (i : Int) {y : zSS × zSS} (h : SA y.2) : SA (ldS bg en n i y).2.2 := by
  rw [ldS_L]
  exact h
theorem SA_adf {z y : zSS} (h : SA z) (hy : SA y) : SA (adfS z y i) := AllS_adf h hy.2.2
theorem tuS_good {c : Int → Int} {len : Int} {P : zPl} (hc : TG c) (hB : SG P.2.1) (hM : SG P.2.2.1) (hA : SA P.2.2.1) : SG (tuS c dv kd len P).2.2.2.1 ∧ SG (tuS c dv kd len P).2.2.2.2.1 ∧ SA (tuS c dv kd len P).2.2.2.2.1 := by
  have h1 : SG (lp (tuf P.2.1) (min P.2.1.2.2.2.2.2 27).toNat 0 (clrS P.2.2.2.1)) := lp_ind (tuf P.2.1) SG _ 0 _ (AllS_clr _ _) (fun j s _ _ hs => by
    unfold tuf
    split
    · exact SG_adf hs hB
    · exact hs)
  have h2 : SG (apsS c dv kd (clrS P.2.2.2.2.1)) := SG_aps hc (AllS_clr _ _)
  have h3 : SA (apsS c dv kd (clrS P.2.2.2.2.1)) := SA_aps (AllS_clr _ _)
  have h4 := lp_ind (tu2 P.2.2.1 P.2.2.2.2.2 len) (fun y => SG y.2.1 ∧ SG y.2.2 ∧ SA y.2.2) P.2.2.1.2.2.2.2.2.toNat 0 (0, lp (tuf P.2.1) (min P.2.1.2.2.2.2.2 27).toNat 0 (clrS P.2.2.2.1), apsS c dv kd (clrS P.2.2.2.2.1)) ⟨h1, h2, h3⟩ (fun j s _ _ hs => by
    unfold tu2
    split
    · exact ⟨hs.1, SG_adf hs.2.1 hM, SA_adf hs.2.2 hA⟩
    · exact ⟨SG_adf hs.1 hM, hs.2.1, hs.2.2⟩)
  exact ⟨h4.1, AllS_ord h4.2.1, AllS_ord h4.2.2⟩
theorem tkM_good {B M : zSS} (hB : SG B) : SG (tkM B M) ∧ SA (tkM B M) :=
  lp_ind (tkf B) (fun M => SG M ∧ SA M) _ 0 _ ⟨AllS_clr _ _, AllS_clr _ _⟩ (fun j s h0 h1 hs => by
    unfold tkf
    split
    · exact hs
    · rename_i h
      refine ⟨SG_adf hs.1 hB, ?_⟩
      unfold adfS
      split
      · exact AllS_add hs.2 h
      · exact hs.2)
theorem stf_keep {L : zSS} (hL : SG L) (hA : SA L) (c : Int → Int) {e f : Int} (hf : f < 15 ∨ 17 < f) : gt (stS L dv c).2 e f = gt c e f := by
  have := lp_ind (stf L dv) (fun y => gt y.2 e f = gt c e f) (min L.2.2.2.2.2 27).toNat 0 (0, c) rfl (fun j y h0 h1 hy => by
    unfold stf
    dsimp only
    have h2 := (hL.2.2 j h0 (by omega)).2.1
    have h3 : L.2.1 j ≠ -1 := hA.2.2 j h0 (by omega)
    rw [gt_stc, if_neg (by omega)]
    exact hy)
  exact this
theorem TG_stc {c : Int → Int} (hc : TG c) (hf : 15 ≤ f ∧ f ≤ 17) (hv : -1 ≤ v ∧ v ≤ 1048576) : TG (stc c dv f v) := by
  refine ⟨fun e => ⟨?_, fun a h0 h1 => ?_⟩, fun e h0 h1 => ⟨fun a h2 h3 => ?_, fun k h2 h3 => ?_⟩⟩
  · rw [gt_stc, if_neg (by omega)]
    exact (hc.1 e).1
  · rw [gt_stc, if_neg (by omega)]
    exact (hc.1 e).2 a h0 h1
  · rw [gt_stc, if_neg (by omega)] at h3
    have := (hc.2 e h0 h1).1 a h2 h3
    rw [gt_stc, if_neg (by have := (hc.1 e).1; omega), gt_stc]
    refine ⟨this.1, ?_⟩
    split
    · exact hv
    · exact this.2
  · rw [gt_stc, if_neg (by omega), gt_stc, if_neg (by omega)]
    exact (hc.2 e h0 h1).2 k h2 h3
theorem TG_st {L : zSS} {c : Int → Int} (hc : TG c) (hL : SG L) (hA : SA L) : TG (stS L dv c).2 :=
  lp_ind (stf L dv) (fun y => TG y.2) _ 0 (0, c) hc (fun j y h0 h1 hy => by
    have h2 := hL.2.2 j h0 (by omega)
    have h3 : L.2.1 j ≠ -1 := hA.2.2 j h0 (by omega)
    unfold pG at h2
    exact TG_stc hy (by omega) (by omega))
theorem stS_bd {L : zSS} {c : Int → Int} (h : L.2.2.2.2.2 ≤ 27) : 0 ≤ (stS L dv c).1 ∧ (stS L dv c).1 ≤ 27 := by
  have h2 : ∀ (n : Nat) (i : Int) (y : Int × (Int → Int)), y.1 ≤ (lp (stf L dv) n i y).1 ∧ (lp (stf L dv) n i y).1 ≤ y.1 + n := by
    intro n
    induction n with
    | zero => intro i y; simp only [lp]; omega
    | succ n ih =>
      intro i y
      have := ih (i + 1) (stf L dv i y)
      have e : y.1 ≤ (stf L dv i y).1 ∧ (stf L dv i y).1 ≤ y.1 + 1 := by
        unfold stf
        dsimp only
        split <;> omega
      simp only [lp]
      omega
  have := h2 (min L.2.2.2.2.2 27).toNat 0 (0, c)
  unfold stS
  dsimp only at this
  omega
/-- one row tried -/
noncomputable def fr1 (sp : Int → Int) (dv a kd len : Int) (P : zPl) : Int × zPl :=
  ((ldS (begf P.1 a kd) (begf P.1 a kd + lenf P.1 sp a kd) (min (tuS P.1 dv kd len P).2.2.2.2.1.2.2.2.2.2 27).toNat 0 ((tuS P.1 dv kd len P).2.2.2.1, (tuS P.1 dv kd len P).2.2.2.2.1)).1,
   (P.1, P.2.1, P.2.2.1, (ldS (begf P.1 a kd) (begf P.1 a kd + lenf P.1 sp a kd) (min (tuS P.1 dv kd len P).2.2.2.2.1.2.2.2.2.2 27).toNat 0 ((tuS P.1 dv kd len P).2.2.2.1, (tuS P.1 dv kd len P).2.2.2.2.1)).2.1, (ldS (begf P.1 a kd) (begf P.1 a kd + lenf P.1 sp a kd) (min (tuS P.1 dv kd len P).2.2.2.2.1.2.2.2.2.2 27).toNat 0 ((tuS P.1 dv kd len P).2.2.2.1, (tuS P.1 dv kd len P).2.2.2.2.1)).2.2, P.2.2.2.2.2))
noncomputable def rwS (sp : Int → Int) (dv a kd len : Int) : Nat → zPl → Int × zPl
  | 0, P => (0, P)
  | m + 1, P => if (fr1 sp dv a kd len P).1 = 1 then fr1 sp dv a kd len P else if (nrS len P.2.2.1.2.2.2.2.2 P.2.2.2.2.2).1 = 0 then (0, plc (fr1 sp dv a kd len P).2 (nrS len P.2.2.1.2.2.2.2.2 P.2.2.2.2.2).2) else rwS sp dv a kd len m (plc (fr1 sp dv a kd len P).2 (nrS len P.2.2.1.2.2.2.2.2 P.2.2.2.2.2).2)
def chI (len : Int) (ch : Int → Int) : Int → Int := lp (fun i c => ups c i i) (min len 3).toNat 0 ch
noncomputable def flS (sp : Int → Int) (dv a kd : Int) : Nat → Int → zPl → Int × zPl
  | 0, _, P => (0, P)
  | m + 1, len, P => if len ≤ P.2.2.1.2.2.2.2.2 then (if (rwS sp dv a kd len 10000 (plc P (chI len P.2.2.2.2.2))).1 = 1 then rwS sp dv a kd len 10000 (plc P (chI len P.2.2.2.2.2)) else flS sp dv a kd m (len + 1) (rwS sp dv a kd len 10000 (plc P (chI len P.2.2.2.2.2))).2) else (0, P)
abbrev BuOK (c sp : Int → Int) (a kd : Int) : Prop := (0 ≤ begf c a kd ∧ begf c a kd ≤ 1048576) ∧ 0 ≤ lenf c sp a kd ∧ begf c a kd + lenf c sp a kd ≤ 1048576
/-- what holds between the tries -/
def RwI (c : Int → Int) (B M : zSS) (P : zPl) : Prop := P.1 = c ∧ P.2.1 = B ∧ P.2.2.1 = M ∧ ChB P.2.2.2.2.2
def LsI (P : zPl) : Prop := SG P.2.2.2.1 ∧ SG P.2.2.2.2.1 ∧ SA P.2.2.2.2.1
theorem fr1_I {c sp : Int → Int} {B M : zSS} {len : Int} {P : zPl} (h : RwI c B M P) : RwI c B M (fr1 sp dv a kd len P).2 := h
theorem l_try (ht : zT t) {c : Int → Int} {B M : zSS} {len : Int} {P : zPl} (hk : 0 ≤ kd ∧ kd < 2) (hc : TG c) (hB : SG B) (hM : SG M) (hA : SA M) (hb : BuOK c (im (t + 2)) a kd) (h : RwI c B M P) : (∀ Q, CallP (d + 4) 16 [.inr (some 138), .inr (some t), .inl dv, .inl kd, .inl len] (plm im t P) Q ↔ Q none (plm im t (tuS P.1 dv kd len P))) ∧ (∀ Q, CallP (d + 4) 15 [.inr (some 138), .inr (some t), .inl a, .inl kd] (plm im t (tuS P.1 dv kd len P)) Q ↔ Q (some (.inl (fr1 (im (t + 2)) dv a kd len P).1)) (plm im t (fr1 (im (t + 2)) dv a kd len P).2)) ∧ LsI (fr1 (im (t + 2)) dv a kd len P).2 := by
  obtain ⟨e1, e2, e3, hch⟩ := h
  have g := tuS_good (dv := dv) (kd := kd) (len := len) (P := P) (c := c) hc (by rw [e2]; exact hB) (by rw [e3]; exact hM) (by rw [e3]; exact hA)
  rw [← e1] at hb g
  refine ⟨fun Q => c_takeUp ht (by rw [e1]; exact hc.1) (by rw [e3]; have := hM.2.1; omega), fun Q => ?_, ?_⟩
  · exact (c_layDown (d := d + 1) (im := im) (Q := Q) (P := tuS P.1 dv kd len P) ht hk hb.1 hb.2 g.1 g.2.1 rfl).1
  · have g2 := (c_layDown (d := d + 1) (im := im) (Q := fun _ _ => True) (P := tuS P.1 dv kd len P) ht hk hb.1 hb.2 g.1 g.2.1 rfl).2
    exact ⟨g2.1, g2.2, SA_ld _ _ g.2.2⟩
theorem l_rows (ht : zT t) {c : Int → Int} {B M : zSS} {len most : Int} (hk : 0 ≤ kd ∧ kd < 2) (hc : TG c) (hB : SG B) (hM : SG M) (hA : SA M) (hb : BuOK c (im (t + 2)) a kd) (hl : 0 ≤ len ∧ len ≤ 1000) : ∀ (m : Nat) (row : Int) (P : zPl), 0 ≤ row → row + m = 10000 → RwI c B M P →
    RwI c B M (rwS (im (t + 2)) dv a kd len m P).2 ∧ ((rwS (im (t + 2)) dv a kd len m P).1 = 1 → LsI (rwS (im (t + 2)) dv a kd len m P).2) ∧ ((rwS (im (t + 2)) dv a kd len m P).1 = 1 → ∀ Q, wp none (d + 5) 13 (zpg 13 56) [.inr (some 138), .inr (some t), .inl dv, .inl a, .inl kd, .inl most, .inl len, .inl row] [] (plm im t P) Q ↔ Q (some (.inl 1)) (plm im t (rwS (im (t + 2)) dv a kd len m P).2)) ∧ ((rwS (im (t + 2)) dv a kd len m P).1 ≠ 1 → ∃ row', ∀ Q, wp none (d + 5) 13 (zpg 13 56) [.inr (some 138), .inr (some t), .inl dv, .inl a, .inl kd, .inl most, .inl len, .inl row] [] (plm im t P) Q ↔ wp none (d + 5) 13 (zpg 13 105) [.inr (some 138), .inr (some t), .inl dv, .inl a, .inl kd, .inl most, .inl len, .inl row'] [] (plm im t (rwS (im (t + 2)) dv a kd len m P).2) Q)
  | 0, row, P, h0, h1, h => by
    refine ⟨h, fun h2 => ?_, fun h2 => ?_, fun _ => ⟨row, fun Q => ?_⟩⟩
    · have h3 : (0 : Int) = 1 := h2
      omega
    · have h3 : (0 : Int) = 1 := h2
      omega
    · conv => lhs; rw [pg_13_56]
      simp (disch := omega) only [wp_iload, wp_aload, wp_istore, wp_astore, wp_iinc, wp_iconst, wp_dup, wp_dup2, wp_pop, wp_iadd, wp_isub, wp_imul, wp_idiv, wp_irem, wp_ineg, wp_iand, wp_ior, wp_ixor, wp_ishl, wp_ishr, wp_getI, wp_putI, wp_getR, wp_goto, wp_goto_w, wq_if_eq, wq_if_ne, wq_if_lt, wq_if_ge, wq_if_gt, wq_if_le, wq_icmp_eq, wq_icmp_ne, wq_icmp_lt, wq_icmp_ge, wq_icmp_gt, wq_icmp_le, wp_max, wp_min, kI_inl, kR_some, kN_inl, kO_some, KT_none, KT_some, List.length_cons, List.length_nil, Nat.reduceAdd, Nat.reduceLT, Nat.reduceLeDiff, Nat.reduceMod, Nat.reduceDiv, true_and, and_true, Int.reduceLE, Int.reduceNeg, Int.reduceLT, Int.cast_ofNat_Int, Nat.zero_le, zI, Int.reduceAdd, Int.reduceSub, Int.reduceMul, not_true_eq_false, not_false_eq_true, false_implies, true_implies, i01_0, i01_1, ite_not, ↓reduceIte, zget_0, zget_1, zget_2, zget_3, zget_4, zget_5, zget_6, zget_7, zget_8, zget_9, zget_10, zset_0, zset_1, zset_2, zset_3, zset_4, zset_5, zset_6, zset_7, zset_8, zset_9, zset_10, show 10000 ≤ row by omega, if_true, rwS]
  | m + 1, row, P, h0, h1, h => by
    obtain ⟨t1, t2, t3⟩ := l_try (d := d) (im := im) (dv := dv) (len := len) ht hk hc hB hM hA hb h
    have h' : RwI c B M (fr1 (im (t + 2)) dv a kd len P).2 := fr1_I h
    have hr01 : (fr1 (im (t + 2)) dv a kd len P).1 = 0 ∨ (fr1 (im (t + 2)) dv a kd len P).1 = 1 := ldS_01 _ _ _
    have hn := fun Q => c_nextRow (d := d + 4) (im := im) (t := t) (Q := Q) (P := (fr1 (im (t + 2)) dv a kd len P).2) (len := len) hl (by rw [h'.2.2.1]; have := hM.1; have := hM.2.1; omega) h'.2.2.2
    have e3 : (fr1 (im (t + 2)) dv a kd len P).2.2.2.1 = P.2.2.1 := rfl
    have e6 : (fr1 (im (t + 2)) dv a kd len P).2.2.2.2.2.2 = P.2.2.2.2.2 := rfl
    rw [e3, e6] at hn
    have hnb := nrS_bd (len := len) (M := P.2.2.1.2.2.2.2.2) (ch := P.2.2.2.2.2) hl.1 (by rw [h.2.2.1]; exact hM.2.1) h.2.2.2
    have kt := (zT_k ht).1
    by_cases c1 : (fr1 (im (t + 2)) dv a kd len P).1 = 1
    · have ec : rwS (im (t + 2)) dv a kd len (m + 1) P = fr1 (im (t + 2)) dv a kd len P := by
        simp only [rwS, c1, if_true]
      rw [ec]
      refine ⟨h', fun _ => t3, fun _ Q => ?_, fun h2 => absurd c1 h2⟩
      rw [pg_13_56]
      simp (disch := omega) only [wp_zreturn rk_13, pg_13_53, pg_13_87, pg_13_99, pg_13_105, pg_13_111, cw_14, cw_15, cw_16, wp_iload, wp_aload, wp_istore, wp_astore, wp_iinc, wp_iconst, wp_dup, wp_dup2, wp_pop, wp_iadd, wp_isub, wp_imul, wp_idiv, wp_irem, wp_ineg, wp_iand, wp_ior, wp_ixor, wp_ishl, wp_ishr, wp_getI, wp_putI, wp_getR, wp_goto, wp_goto_w, wq_if_eq, wq_if_ne, wq_if_lt, wq_if_ge, wq_if_gt, wq_if_le, wq_icmp_eq, wq_icmp_ne, wq_icmp_lt, wq_icmp_ge, wq_icmp_gt, wq_icmp_le, wp_max, wp_min, kI_inl, kR_some, kN_inl, kO_some, KT_none, KT_some, List.length_cons, List.length_nil, Nat.reduceAdd, Nat.reduceLT, Nat.reduceLeDiff, Nat.reduceMod, Nat.reduceDiv, true_and, and_true, Int.reduceLE, Int.reduceNeg, Int.reduceLT, Int.cast_ofNat_Int, Nat.zero_le, zI, Int.reduceAdd, Int.reduceSub, Int.reduceMul, not_true_eq_false, not_false_eq_true, false_implies, true_implies, i01_0, i01_1, ite_not, ↓reduceIte, zget_0, zget_1, zget_2, zget_3, zget_4, zget_5, zget_6, zget_7, zget_8, zget_9, zget_10, zset_0, zset_1, zset_2, zset_3, zset_4, zset_5, zset_6, zset_7, zset_8, zset_9, zset_10, kd_138, rf_138_0, rf_138_1, rf_138_2, rf_138_3, rf_138_4, kp_139, kp_145, kp_151, kp_157, rp_141, rp_158, rp_159, rp_161, rp_162, wp_iaload kp_141, wp_iaload kp_158, wp_iaload kp_159, wp_iaload kp_161, wp_iaload kp_162, wp_iastore kp_162, wp_iaload kd_163, wp_iastore kd_163, kt, show ¬ 10000 ≤ row by omega, if_false, t1, t2, c1]
      simp only [show ¬ (1 : Int) = 0 by omega, if_false, or_true, true_and]
    · have c0 : (fr1 (im (t + 2)) dv a kd len P).1 = 0 := by omega
      by_cases c2 : (nrS len P.2.2.1.2.2.2.2.2 P.2.2.2.2.2).1 = 0
      · have ec : rwS (im (t + 2)) dv a kd len (m + 1) P = (0, plc (fr1 (im (t + 2)) dv a kd len P).2 (nrS len P.2.2.1.2.2.2.2.2 P.2.2.2.2.2).2) := by
          simp only [rwS, c1, c2, if_true, if_false]
        rw [ec]
        refine ⟨⟨h'.1, h'.2.1, h'.2.2.1, hnb.1⟩, fun h2 => ?_, fun h2 => ?_, fun _ => ⟨row, fun Q => ?_⟩⟩
        · have h3 : (0 : Int) = 1 := h2
          omega
        · have h3 : (0 : Int) = 1 := h2
          omega
        · conv => lhs; rw [pg_13_56]
          simp (disch := omega) only [pg_13_87, pg_13_99, cw_14, cw_15, cw_16, wp_iload, wp_aload, wp_istore, wp_astore, wp_iinc, wp_iconst, wp_dup, wp_dup2, wp_pop, wp_iadd, wp_isub, wp_imul, wp_idiv, wp_irem, wp_ineg, wp_iand, wp_ior, wp_ixor, wp_ishl, wp_ishr, wp_getI, wp_putI, wp_getR, wp_goto, wp_goto_w, wq_if_eq, wq_if_ne, wq_if_lt, wq_if_ge, wq_if_gt, wq_if_le, wq_icmp_eq, wq_icmp_ne, wq_icmp_lt, wq_icmp_ge, wq_icmp_gt, wq_icmp_le, wp_max, wp_min, kI_inl, kR_some, kN_inl, kO_some, KT_none, KT_some, List.length_cons, List.length_nil, Nat.reduceAdd, Nat.reduceLT, Nat.reduceLeDiff, Nat.reduceMod, Nat.reduceDiv, true_and, and_true, Int.reduceLE, Int.reduceNeg, Int.reduceLT, Int.cast_ofNat_Int, Nat.zero_le, zI, Int.reduceAdd, Int.reduceSub, Int.reduceMul, not_true_eq_false, not_false_eq_true, false_implies, true_implies, i01_0, i01_1, ite_not, ↓reduceIte, zget_0, zget_1, zget_2, zget_3, zget_4, zget_5, zget_6, zget_7, zget_8, zget_9, zget_10, zset_0, zset_1, zset_2, zset_3, zset_4, zset_5, zset_6, zset_7, zset_8, zset_9, zset_10, kd_138, rf_138_0, rf_138_1, rf_138_2, rf_138_3, rf_138_4, kp_139, kp_145, kp_151, kp_157, rp_141, rp_158, rp_159, rp_161, rp_162, wp_iaload kp_141, wp_iaload kp_158, wp_iaload kp_159, wp_iaload kp_161, wp_iaload kp_162, wp_iastore kp_162, wp_iaload kd_163, wp_iastore kd_163, kt, show ¬ 10000 ≤ row by omega, if_false, t1, t2, c0, hn, c2, if_true]
      · have h'' : RwI c B M (plc (fr1 (im (t + 2)) dv a kd len P).2 (nrS len P.2.2.1.2.2.2.2.2 P.2.2.2.2.2).2) := ⟨h'.1, h'.2.1, h'.2.2.1, hnb.1⟩
        have ec : rwS (im (t + 2)) dv a kd len (m + 1) P = rwS (im (t + 2)) dv a kd len m (plc (fr1 (im (t + 2)) dv a kd len P).2 (nrS len P.2.2.1.2.2.2.2.2 P.2.2.2.2.2).2) := by
          simp only [rwS, c1, c2, if_false]
        have ih := l_rows ht (most := most) hk hc hB hM hA hb hl m (row + 1) _ (by omega) (by omega) h''
        have es : ∀ Q, wp none (d + 5) 13 (zpg 13 56) [.inr (some 138), .inr (some t), .inl dv, .inl a, .inl kd, .inl most, .inl len, .inl row] [] (plm im t P) Q ↔ wp none (d + 5) 13 (zpg 13 56) [.inr (some 138), .inr (some t), .inl dv, .inl a, .inl kd, .inl most, .inl len, .inl (row + 1)] [] (plm im t (plc (fr1 (im (t + 2)) dv a kd len P).2 (nrS len P.2.2.1.2.2.2.2.2 P.2.2.2.2.2).2)) Q := by
          intro Q
          conv => lhs; rw [pg_13_56]
          simp (disch := omega) only [pg_13_87, pg_13_99, cw_14, cw_15, cw_16, wp_iload, wp_aload, wp_istore, wp_astore, wp_iinc, wp_iconst, wp_dup, wp_dup2, wp_pop, wp_iadd, wp_isub, wp_imul, wp_idiv, wp_irem, wp_ineg, wp_iand, wp_ior, wp_ixor, wp_ishl, wp_ishr, wp_getI, wp_putI, wp_getR, wp_goto, wp_goto_w, wq_if_eq, wq_if_ne, wq_if_lt, wq_if_ge, wq_if_gt, wq_if_le, wq_icmp_eq, wq_icmp_ne, wq_icmp_lt, wq_icmp_ge, wq_icmp_gt, wq_icmp_le, wp_max, wp_min, kI_inl, kR_some, kN_inl, kO_some, KT_none, KT_some, List.length_cons, List.length_nil, Nat.reduceAdd, Nat.reduceLT, Nat.reduceLeDiff, Nat.reduceMod, Nat.reduceDiv, true_and, and_true, Int.reduceLE, Int.reduceNeg, Int.reduceLT, Int.cast_ofNat_Int, Nat.zero_le, zI, Int.reduceAdd, Int.reduceSub, Int.reduceMul, not_true_eq_false, not_false_eq_true, false_implies, true_implies, i01_0, i01_1, ite_not, ↓reduceIte, zget_0, zget_1, zget_2, zget_3, zget_4, zget_5, zget_6, zget_7, zget_8, zget_9, zget_10, zset_0, zset_1, zset_2, zset_3, zset_4, zset_5, zset_6, zset_7, zset_8, zset_9, zset_10, kd_138, rf_138_0, rf_138_1, rf_138_2, rf_138_3, rf_138_4, kp_139, kp_145, kp_151, kp_157, rp_141, rp_158, rp_159, rp_161, rp_162, wp_iaload kp_141, wp_iaload kp_158, wp_iaload kp_159, wp_iaload kp_161, wp_iaload kp_162, wp_iastore kp_162, wp_iaload kd_163, wp_iastore kd_163, kt, show ¬ 10000 ≤ row by omega, if_false, t1, t2, c0, hn, c2, if_true]
          repeat (refine (and_iff_right (by omega)).trans ?_)
          exact Iff.rfl
        rw [ec]
        refine ⟨ih.1, ih.2.1, fun h2 Q => (es Q).trans (ih.2.2.1 h2 Q), fun h2 => ?_⟩
        obtain ⟨row', ih3⟩ := ih.2.2.2 h2
        exact ⟨row', fun Q => (es Q).trans (ih3 Q)⟩
theorem l_chI {c : Int → Int} {B M : zSS} {len most : Int} {x1 x2 x3 x4 : zV} : ∀ (n : Nat) (i : Int) (P : zPl), 0 ≤ i → i + n = 3 → RwI c B M P → ∃ i', (∀ Q, wp none (d + 5) 13 (zpg 13 25) [.inr (some 138), x1, x2, x3, x4, .inl most, .inl len, .inl i] [] (plm im t P) Q ↔ wp none (d + 5) 13 (zpg 13 53) [.inr (some 138), x1, x2, x3, x4, .inl most, .inl len, .inl i'] [] (plm im t (plc P (lp (fun i c => ups c i i) (min len 3 - i).toNat i P.2.2.2.2.2))) Q) ∧ RwI c B M (plc P (lp (fun i c => ups c i i) (min len 3 - i).toNat i P.2.2.2.2.2))
  | 0, i, P, h0, h1, h => by
    have e0 : (min len 3 - i).toNat = 0 := by omega
    rw [e0]
    refine ⟨i, fun Q => ?_, h⟩
    conv => lhs; rw [pg_13_25]
    simp (disch := omega) only [wp_iload, wp_aload, wp_istore, wp_astore, wp_iinc, wp_iconst, wp_dup, wp_dup2, wp_pop, wp_iadd, wp_isub, wp_imul, wp_idiv, wp_irem, wp_ineg, wp_iand, wp_ior, wp_ixor, wp_ishl, wp_ishr, wp_getI, wp_putI, wp_getR, wp_goto, wp_goto_w, wq_if_eq, wq_if_ne, wq_if_lt, wq_if_ge, wq_if_gt, wq_if_le, wq_icmp_eq, wq_icmp_ne, wq_icmp_lt, wq_icmp_ge, wq_icmp_gt, wq_icmp_le, wp_max, wp_min, kI_inl, kR_some, kN_inl, kO_some, KT_none, KT_some, List.length_cons, List.length_nil, Nat.reduceAdd, Nat.reduceLT, Nat.reduceLeDiff, Nat.reduceMod, Nat.reduceDiv, true_and, and_true, Int.reduceLE, Int.reduceNeg, Int.reduceLT, Int.cast_ofNat_Int, Nat.zero_le, zI, Int.reduceAdd, Int.reduceSub, Int.reduceMul, not_true_eq_false, not_false_eq_true, false_implies, true_implies, i01_0, i01_1, ite_not, ↓reduceIte, zget_0, zget_1, zget_2, zget_3, zget_4, zget_5, zget_6, zget_7, zget_8, zget_9, zget_10, zset_0, zset_1, zset_2, zset_3, zset_4, zset_5, zset_6, zset_7, zset_8, zset_9, zset_10, lp, show 3 ≤ i by omega, if_true]
    have e : plc P P.2.2.2.2.2 = P := rfl
    rw [e]
    grind
  | n + 1, i, P, h0, h1, h => by
    by_cases hi : len ≤ i
    · have e0 : (min len 3 - i).toNat = 0 := by omega
      rw [e0]
      refine ⟨i, fun Q => ?_, h⟩
      conv => lhs; rw [pg_13_25]
      simp (disch := omega) only [wp_iload, wp_aload, wp_istore, wp_astore, wp_iinc, wp_iconst, wp_dup, wp_dup2, wp_pop, wp_iadd, wp_isub, wp_imul, wp_idiv, wp_irem, wp_ineg, wp_iand, wp_ior, wp_ixor, wp_ishl, wp_ishr, wp_getI, wp_putI, wp_getR, wp_goto, wp_goto_w, wq_if_eq, wq_if_ne, wq_if_lt, wq_if_ge, wq_if_gt, wq_if_le, wq_icmp_eq, wq_icmp_ne, wq_icmp_lt, wq_icmp_ge, wq_icmp_gt, wq_icmp_le, wp_max, wp_min, kI_inl, kR_some, kN_inl, kO_some, KT_none, KT_some, List.length_cons, List.length_nil, Nat.reduceAdd, Nat.reduceLT, Nat.reduceLeDiff, Nat.reduceMod, Nat.reduceDiv, true_and, and_true, Int.reduceLE, Int.reduceNeg, Int.reduceLT, Int.cast_ofNat_Int, Nat.zero_le, zI, Int.reduceAdd, Int.reduceSub, Int.reduceMul, not_true_eq_false, not_false_eq_true, false_implies, true_implies, i01_0, i01_1, ite_not, ↓reduceIte, zget_0, zget_1, zget_2, zget_3, zget_4, zget_5, zget_6, zget_7, zget_8, zget_9, zget_10, zset_0, zset_1, zset_2, zset_3, zset_4, zset_5, zset_6, zset_7, zset_8, zset_9, zset_10, lp, hi, if_true]
      exact Iff.rfl
    · have e0 : (min len 3 - i).toNat = (min len 3 - (i + 1)).toNat + 1 := by omega
      obtain ⟨i', ih1, ih2⟩ := l_chI (x1 := x1) (x2 := x2) (x3 := x3) (x4 := x4) (most := most) (len := len) n (i + 1) (plc P (ups P.2.2.2.2.2 i i)) (by omega) (by omega) ⟨h.1, h.2.1, h.2.2.1, ChB_ups h.2.2.2 (by omega)⟩
      rw [e0]
      refine ⟨i', fun Q => ?_, ih2⟩
      refine Iff.trans ?_ (ih1 Q)
      conv => lhs; rw [pg_13_25]
      simp (disch := omega) only [wp_iload, wp_aload, wp_istore, wp_astore, wp_iinc, wp_iconst, wp_dup, wp_dup2, wp_pop, wp_iadd, wp_isub, wp_imul, wp_idiv, wp_irem, wp_ineg, wp_iand, wp_ior, wp_ixor, wp_ishl, wp_ishr, wp_getI, wp_putI, wp_getR, wp_goto, wp_goto_w, wq_if_eq, wq_if_ne, wq_if_lt, wq_if_ge, wq_if_gt, wq_if_le, wq_icmp_eq, wq_icmp_ne, wq_icmp_lt, wq_icmp_ge, wq_icmp_gt, wq_icmp_le, wp_max, wp_min, kI_inl, kR_some, kN_inl, kO_some, KT_none, KT_some, List.length_cons, List.length_nil, Nat.reduceAdd, Nat.reduceLT, Nat.reduceLeDiff, Nat.reduceMod, Nat.reduceDiv, true_and, and_true, Int.reduceLE, Int.reduceNeg, Int.reduceLT, Int.cast_ofNat_Int, Nat.zero_le, zI, Int.reduceAdd, Int.reduceSub, Int.reduceMul, not_true_eq_false, not_false_eq_true, false_implies, true_implies, i01_0, i01_1, ite_not, ↓reduceIte, zget_0, zget_1, zget_2, zget_3, zget_4, zget_5, zget_6, zget_7, zget_8, zget_9, zget_10, zset_0, zset_1, zset_2, zset_3, zset_4, zset_5, zset_6, zset_7, zset_8, zset_9, zset_10, kd_138, rf_138_0, rf_138_1, rf_138_2, rf_138_3, rf_138_4, kp_139, kp_145, kp_151, kp_157, rp_141, rp_158, rp_159, rp_161, rp_162, wp_iaload kp_141, wp_iaload kp_158, wp_iaload kp_159, wp_iaload kp_161, wp_iaload kp_162, wp_iastore kp_162, wp_iaload kd_163, wp_iastore kd_163, hi, show ¬ 3 ≤ i by omega, if_false, zu_setc, plm_ch, plm_sch']
      repeat (refine (and_iff_right (by omega)).trans ?_)
      exact Iff.rfl
theorem l_find (ht : zT t) {c : Int → Int} {B M : zSS} {most : Int} (hk : 0 ≤ kd ∧ kd < 2) (hc : TG c) (hB : SG B) (hM : SG M) (hA : SA M) (hb : BuOK c (im (t + 2)) a kd) : ∀ (m : Nat) (len : Int) (P : zPl) (x7 : zV), 0 ≤ len → len + m = most + 1 → most ≤ 100 → RwI c B M P →
    RwI c B M (flS (im (t + 2)) dv a kd m len P).2 ∧ ((flS (im (t + 2)) dv a kd m len P).1 = 1 → LsI (flS (im (t + 2)) dv a kd m len P).2) ∧ ((flS (im (t + 2)) dv a kd m len P).1 = 0 ∨ (flS (im (t + 2)) dv a kd m len P).1 = 1) ∧ ∀ Q, wp none (d + 5) 13 (zpg 13 3) [.inr (some 138), .inr (some t), .inl dv, .inl a, .inl kd, .inl most, .inl len, x7] [] (plm im t P) Q ↔ Q (some (.inl (flS (im (t + 2)) dv a kd m len P).1)) (plm im t (flS (im (t + 2)) dv a kd m len P).2)
  | 0, len, P, x7, h0, h1, h2, h => by
    refine ⟨h, fun h3 => ?_, Or.inl rfl, fun Q => ?_⟩
    · have h3 : (0 : Int) = 1 := h3
      omega
    · rw [pg_13_3]
      simp (disch := omega) only [wp_zreturn rk_13, pg_13_53, pg_13_87, pg_13_99, pg_13_105, pg_13_111, cw_14, cw_15, cw_16, wp_iload, wp_aload, wp_istore, wp_astore, wp_iinc, wp_iconst, wp_dup, wp_dup2, wp_pop, wp_iadd, wp_isub, wp_imul, wp_idiv, wp_irem, wp_ineg, wp_iand, wp_ior, wp_ixor, wp_ishl, wp_ishr, wp_getI, wp_putI, wp_getR, wp_goto, wp_goto_w, wq_if_eq, wq_if_ne, wq_if_lt, wq_if_ge, wq_if_gt, wq_if_le, wq_icmp_eq, wq_icmp_ne, wq_icmp_lt, wq_icmp_ge, wq_icmp_gt, wq_icmp_le, wp_max, wp_min, kI_inl, kR_some, kN_inl, kO_some, KT_none, KT_some, List.length_cons, List.length_nil, Nat.reduceAdd, Nat.reduceLT, Nat.reduceLeDiff, Nat.reduceMod, Nat.reduceDiv, true_and, and_true, Int.reduceLE, Int.reduceNeg, Int.reduceLT, Int.cast_ofNat_Int, Nat.zero_le, zI, Int.reduceAdd, Int.reduceSub, Int.reduceMul, not_true_eq_false, not_false_eq_true, false_implies, true_implies, i01_0, i01_1, ite_not, ↓reduceIte, zget_0, zget_1, zget_2, zget_3, zget_4, zget_5, zget_6, zget_7, zget_8, zget_9, zget_10, zset_0, zset_1, zset_2, zset_3, zset_4, zset_5, zset_6, zset_7, zset_8, zset_9, zset_10, show most < len by omega, if_true, flS, true_or]
  | m + 1, len, P, x7, h0, h1, h2, h => by
    by_cases c1 : len ≤ P.2.2.1.2.2.2.2.2
    · obtain ⟨i', hi, hI⟩ := l_chI (d := d) (im := im) (t := t) (len := len) (most := most) (x1 := .inr (some t)) (x2 := .inl dv) (x3 := .inl a) (x4 := .inl kd) 3 0 P (by omega) (by omega) h
      simp only [Int.sub_zero] at hi hI
      have hr := l_rows (d := d) (im := im) (dv := dv) (len := len) (most := most) ht hk hc hB hM hA hb (by omega) 10000 0 (plc P (chI len P.2.2.2.2.2)) (by omega) (by omega) hI
      have e0 : ∀ Q, wp none (d + 5) 13 (zpg 13 3) [.inr (some 138), .inr (some t), .inl dv, .inl a, .inl kd, .inl most, .inl len, x7] [] (plm im t P) Q ↔ wp none (d + 5) 13 (zpg 13 56) [.inr (some 138), .inr (some t), .inl dv, .inl a, .inl kd, .inl most, .inl len, .inl 0] [] (plm im t (plc P (chI len P.2.2.2.2.2))) Q := by
        intro Q
        have hi' := hi Q
        conv at hi' => rhs; rw [pg_13_53]
        simp (disch := omega) only [wp_iload, wp_aload, wp_istore, wp_astore, wp_iinc, wp_iconst, wp_dup, wp_dup2, wp_pop, wp_iadd, wp_isub, wp_imul, wp_idiv, wp_irem, wp_ineg, wp_iand, wp_ior, wp_ixor, wp_ishl, wp_ishr, wp_getI, wp_putI, wp_getR, wp_goto, wp_goto_w, wq_if_eq, wq_if_ne, wq_if_lt, wq_if_ge, wq_if_gt, wq_if_le, wq_icmp_eq, wq_icmp_ne, wq_icmp_lt, wq_icmp_ge, wq_icmp_gt, wq_icmp_le, wp_max, wp_min, kI_inl, kR_some, kN_inl, kO_some, KT_none, KT_some, List.length_cons, List.length_nil, Nat.reduceAdd, Nat.reduceLT, Nat.reduceLeDiff, Nat.reduceMod, Nat.reduceDiv, true_and, and_true, Int.reduceLE, Int.reduceNeg, Int.reduceLT, Int.cast_ofNat_Int, Nat.zero_le, zI, Int.reduceAdd, Int.reduceSub, Int.reduceMul, not_true_eq_false, not_false_eq_true, false_implies, true_implies, i01_0, i01_1, ite_not, ↓reduceIte, zget_0, zget_1, zget_2, zget_3, zget_4, zget_5, zget_6, zget_7, zget_8, zget_9, zget_10, zset_0, zset_1, zset_2, zset_3, zset_4, zset_5, zset_6, zset_7, zset_8, zset_9, zset_10] at hi'
        conv => lhs; rw [pg_13_3]
        simp (disch := omega) only [wp_iload, wp_aload, wp_istore, wp_astore, wp_iinc, wp_iconst, wp_dup, wp_dup2, wp_pop, wp_iadd, wp_isub, wp_imul, wp_idiv, wp_irem, wp_ineg, wp_iand, wp_ior, wp_ixor, wp_ishl, wp_ishr, wp_getI, wp_putI, wp_getR, wp_goto, wp_goto_w, wq_if_eq, wq_if_ne, wq_if_lt, wq_if_ge, wq_if_gt, wq_if_le, wq_icmp_eq, wq_icmp_ne, wq_icmp_lt, wq_icmp_ge, wq_icmp_gt, wq_icmp_le, wp_max, wp_min, kI_inl, kR_some, kN_inl, kO_some, KT_none, KT_some, List.length_cons, List.length_nil, Nat.reduceAdd, Nat.reduceLT, Nat.reduceLeDiff, Nat.reduceMod, Nat.reduceDiv, true_and, and_true, Int.reduceLE, Int.reduceNeg, Int.reduceLT, Int.cast_ofNat_Int, Nat.zero_le, zI, Int.reduceAdd, Int.reduceSub, Int.reduceMul, not_true_eq_false, not_false_eq_true, false_implies, true_implies, i01_0, i01_1, ite_not, ↓reduceIte, zget_0, zget_1, zget_2, zget_3, zget_4, zget_5, zget_6, zget_7, zget_8, zget_9, zget_10, zset_0, zset_1, zset_2, zset_3, zset_4, zset_5, zset_6, zset_7, zset_8, zset_9, zset_10, kd_138, rf_138_0, rf_138_1, rf_138_2, rf_138_3, rf_138_4, kp_139, kp_145, kp_151, kp_157, rp_141, rp_158, rp_159, rp_161, rp_162, wp_iaload kp_141, wp_iaload kp_158, wp_iaload kp_159, wp_iaload kp_161, wp_iaload kp_162, wp_iastore kp_162, wp_iaload kd_163, wp_iastore kd_163, plm_n2, show ¬ most < len by omega, show ¬ P.2.2.1.2.2.2.2.2 < len by omega, if_false]
        exact hi'
      have ec : flS (im (t + 2)) dv a kd (m + 1) len P = if (rwS (im (t + 2)) dv a kd len 10000 (plc P (chI len P.2.2.2.2.2))).1 = 1 then rwS (im (t + 2)) dv a kd len 10000 (plc P (chI len P.2.2.2.2.2)) else flS (im (t + 2)) dv a kd m (len + 1) (rwS (im (t + 2)) dv a kd len 10000 (plc P (chI len P.2.2.2.2.2))).2 := if_pos c1
      rw [ec]
      generalize rwS (im (t + 2)) dv a kd len 10000 (plc P (chI len P.2.2.2.2.2)) = r at *
      by_cases c2 : r.1 = 1
      · rw [if_pos c2]
        refine ⟨hr.1, hr.2.1, Or.inr c2, fun Q => ?_⟩
        rw [e0, hr.2.2.1 c2, c2]
      · rw [if_neg c2]
        obtain ⟨row', h3⟩ := hr.2.2.2 c2
        have ih := l_find ht (most := most) hk hc hB hM hA hb m (len + 1) r.2 (.inl row') (by omega) (by omega) h2 hr.1
        refine ⟨ih.1, ih.2.1, ih.2.2.1, fun Q => ?_⟩
        rw [e0, h3, pg_13_105]
        simp (disch := omega) only [wp_iload, wp_aload, wp_istore, wp_astore, wp_iinc, wp_iconst, wp_dup, wp_dup2, wp_pop, wp_iadd, wp_isub, wp_imul, wp_idiv, wp_irem, wp_ineg, wp_iand, wp_ior, wp_ixor, wp_ishl, wp_ishr, wp_getI, wp_putI, wp_getR, wp_goto, wp_goto_w, wq_if_eq, wq_if_ne, wq_if_lt, wq_if_ge, wq_if_gt, wq_if_le, wq_icmp_eq, wq_icmp_ne, wq_icmp_lt, wq_icmp_ge, wq_icmp_gt, wq_icmp_le, wp_max, wp_min, kI_inl, kR_some, kN_inl, kO_some, KT_none, KT_some, List.length_cons, List.length_nil, Nat.reduceAdd, Nat.reduceLT, Nat.reduceLeDiff, Nat.reduceMod, Nat.reduceDiv, true_and, and_true, Int.reduceLE, Int.reduceNeg, Int.reduceLT, Int.cast_ofNat_Int, Nat.zero_le, zI, Int.reduceAdd, Int.reduceSub, Int.reduceMul, not_true_eq_false, not_false_eq_true, false_implies, true_implies, i01_0, i01_1, ite_not, ↓reduceIte, zget_0, zget_1, zget_2, zget_3, zget_4, zget_5, zget_6, zget_7, zget_8, zget_9, zget_10, zset_0, zset_1, zset_2, zset_3, zset_4, zset_5, zset_6, zset_7, zset_8, zset_9, zset_10, ih.2.2.2]
        repeat (refine (and_iff_right (by omega)).trans ?_)
        exact Iff.rfl
    · have ec : flS (im (t + 2)) dv a kd (m + 1) len P = (0, P) := if_neg c1
      rw [ec]
      refine ⟨h, fun h3 => ?_, Or.inl rfl, fun Q => ?_⟩
      · have h3 : (0 : Int) = 1 := h3
        omega
      · rw [pg_13_3]
        simp (disch := omega) only [wp_zreturn rk_13, pg_13_53, pg_13_87, pg_13_99, pg_13_105, pg_13_111, cw_14, cw_15, cw_16, wp_iload, wp_aload, wp_istore, wp_astore, wp_iinc, wp_iconst, wp_dup, wp_dup2, wp_pop, wp_iadd, wp_isub, wp_imul, wp_idiv, wp_irem, wp_ineg, wp_iand, wp_ior, wp_ixor, wp_ishl, wp_ishr, wp_getI, wp_putI, wp_getR, wp_goto, wp_goto_w, wq_if_eq, wq_if_ne, wq_if_lt, wq_if_ge, wq_if_gt, wq_if_le, wq_icmp_eq, wq_icmp_ne, wq_icmp_lt, wq_icmp_ge, wq_icmp_gt, wq_icmp_le, wp_max, wp_min, kI_inl, kR_some, kN_inl, kO_some, KT_none, KT_some, List.length_cons, List.length_nil, Nat.reduceAdd, Nat.reduceLT, Nat.reduceLeDiff, Nat.reduceMod, Nat.reduceDiv, true_and, and_true, Int.reduceLE, Int.reduceNeg, Int.reduceLT, Int.cast_ofNat_Int, Nat.zero_le, zI, Int.reduceAdd, Int.reduceSub, Int.reduceMul, not_true_eq_false, not_false_eq_true, false_implies, true_implies, i01_0, i01_1, ite_not, ↓reduceIte, zget_0, zget_1, zget_2, zget_3, zget_4, zget_5, zget_6, zget_7, zget_8, zget_9, zget_10, zset_0, zset_1, zset_2, zset_3, zset_4, zset_5, zset_6, zset_7, zset_8, zset_9, zset_10, kd_138, rf_138_0, rf_138_1, rf_138_2, rf_138_3, rf_138_4, kp_139, kp_145, kp_151, kp_157, rp_141, rp_158, rp_159, rp_161, rp_162, wp_iaload kp_141, wp_iaload kp_158, wp_iaload kp_159, wp_iaload kp_161, wp_iaload kp_162, wp_iastore kp_162, wp_iaload kd_163, wp_iastore kd_163, plm_n2, show ¬ most < len by omega, show P.2.2.1.2.2.2.2.2 < len by omega, if_true, if_false, true_or]
theorem c_findRow (ht : zT t) {P : zPl} {most : Int} (hk : 0 ≤ kd ∧ kd < 2) (hm : 0 ≤ most ∧ most ≤ 100) (hc : TG P.1) (hB : SG P.2.1) (hM : SG P.2.2.1) (hA : SA P.2.2.1) (hch : ChB P.2.2.2.2.2) (hb : BuOK P.1 (im (t + 2)) a kd) {r : Int × zPl} (hr : r = flS (im (t + 2)) dv a kd (most + 1).toNat 0 P) : (CallP (d + 5) 13 [.inr (some 138), .inr (some t), .inl dv, .inl a, .inl kd, .inl most] (plm im t P) Q ↔ Q (some (.inl r.1)) (plm im t r.2)) ∧ RwI P.1 P.2.1 P.2.2.1 r.2 ∧ (r.1 = 1 → LsI r.2) ∧ (r.1 = 0 ∨ r.1 = 1) := by
  have hl := l_find (d := d) (im := im) (dv := dv) (most := most) ht hk hc hB hM hA hb (most + 1).toNat 0 P (.inr none) (by omega) (by omega) hm.2 ⟨rfl, rfl, rfl, hch⟩
  rw [← hr] at hl
  refine ⟨?_, hl.1, hl.2.1, hl.2.2.1⟩
  have hq := hl.2.2.2 Q
  simp (disch := omega) only [en_13, pg_13_0, wp_iload, wp_aload, wp_istore, wp_astore, wp_iinc, wp_iconst, wp_dup, wp_dup2, wp_pop, wp_iadd, wp_isub, wp_imul, wp_idiv, wp_irem, wp_ineg, wp_iand, wp_ior, wp_ixor, wp_ishl, wp_ishr, wp_getI, wp_putI, wp_getR, wp_goto, wp_goto_w, wq_if_eq, wq_if_ne, wq_if_lt, wq_if_ge, wq_if_gt, wq_if_le, wq_icmp_eq, wq_icmp_ne, wq_icmp_lt, wq_icmp_ge, wq_icmp_gt, wq_icmp_le, wp_max, wp_min, kI_inl, kR_some, kN_inl, kO_some, KT_none, KT_some, List.length_cons, List.length_nil, Nat.reduceAdd, Nat.reduceLT, Nat.reduceLeDiff, Nat.reduceMod, Nat.reduceDiv, true_and, and_true, Int.reduceLE, Int.reduceNeg, Int.reduceLT, Int.cast_ofNat_Int, Nat.zero_le, zI, Int.reduceAdd, Int.reduceSub, Int.reduceMul, not_true_eq_false, not_false_eq_true, false_implies, true_implies, i01_0, i01_1, ite_not, ↓reduceIte, zget_0, zget_1, zget_2, zget_3, zget_4, zget_5, zget_6, zget_7, zget_8, zget_9, zget_10, zset_0, zset_1, zset_2, zset_3, zset_4, zset_5, zset_6, zset_7, zset_8, zset_9, zset_10]
  exact hq
end PS
