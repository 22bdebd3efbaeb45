/-! POWER-UP: class and reference -/
section GA0
variable {X Y : zM} {c c' cm cF cR A As B C Ao S D w sp : Int → Int} {e f a b k t x v n N d i q bu dv lv : Int} {on on' : Int → Bool} {r : zLy} {m : Nat} {z : zSS}
def NbT (c c0 : Int → Int) : Prop := ∀ e, gt c e 3 = 1 ∨ gt c e 3 = gt c0 e 3
theorem NbT_trans {c2 : Int → Int} (h : NbT c c') (h' : NbT c' c2) : NbT c c2 := fun e => by
  rcases h e with q | q
  · exact Or.inl q
  · rcases h' e with u | u
    · exact Or.inl (by rw [q, u])
    · exact Or.inr (by rw [q, u])
theorem NbT_stc (hf : (f = 3 ∧ v = 1) ∨ f = 7 ∨ f = 8) : NbT (stc c e f v) c := fun x => by
  rw [gt_stc]
  by_cases q : x = e ∧ 3 = f ∧ 0 ≤ e ∧ e < 20 ∧ 0 ≤ f ∧ f < 24
  · rw [if_pos q]
    left
    omega
  · rw [if_neg q]
    exact Or.inr rfl
theorem nbG_T {rec : Int → Int → (Int → Int) → zNB} (hr : ∀ e f c, NbT (rec e f c).2 c) (y : zNB) (e : Int) : NbT (nbG rec y e).2 y.2 := by
  unfold nbG
  split
  · split
    · exact NbT_trans (NbT_stc (Or.inr (Or.inr rfl))) (NbT_trans (hr _ _ _) (NbT_trans (NbT_stc (Or.inr (Or.inl rfl))) (NbT_stc (Or.inl ⟨rfl, rfl⟩))))
    · exact fun _ => Or.inr rfl
  · exact NbT_stc (Or.inl ⟨rfl, rfl⟩)
theorem nbS_T : ∀ (l : Nat) (a f : Int) (c : Int → Int), NbT (nbS w n l a f c).2 c
  | 0, _, _, _ => fun _ => Or.inr rfl
  | l + 1, a, f, c => by
    refine lp_keep (P := fun y : zNB => NbT y.2 c) (fun i y hy => ?_) n.toNat 0 (f, c) (fun _ => Or.inr rfl)
    rw [nbf_G]
    split
    · exact NbT_trans (nbG_T (nbS_T l) y _) hy
    · exact hy
theorem ce_rfl : ∀ (m : Nat) (S : zPS), CeX S.1.1 → CeX (rfl' w sp n m S).1.1
  | 0, _, h => h
  | m + 1, S, h => by
    have h0 : CeX (meas w n 0 S.1).2.1 := ce_msd (by omega) n.toNat S.1 h
    have h1 : CeX (meas w n 1 (meas w n 0 S.1).2).2.1 := ce_msd (by omega) n.toNat _ h0
    unfold rfl'
    by_cases c0 : spc sp 0 < (meas w n 0 S.1).1
    · rw [if_pos c0]
      exact ce_rfl m _ (ce_tof h0)
    · rw [if_neg c0]
      by_cases c1 : spc sp 1 < (meas w n 1 (meas w n 0 S.1).2).1
      · rw [if_pos c1]
        exact ce_rfl m _ (ce_tof h1)
      · rw [if_neg c1]
        exact h1
theorem StR_trans (h : StR A B) (h' : StR B C) : StR A C := fun e f e0 e1 hf => by rw [h' e f e0 e1 hf, h e f e0 e1 hf]
/-- the class's cells that come out -/
theorem fin_sim (h : LdG As Ao on r) (hI : LdI As Ao on r (fun _ => True) B) (t1 : SimC (X 121) A) (hC : Cls (X 121)) (hg : MG A) (hA : StR A As) (hR : ∀ e f : Int, 0 ≤ e → e < 20 → gt cR e f = offv f (gt (X 121) e f)) (hP : PwI cR As on w n cm) (hX : CeX cm) (h20 : ∀ k : Int, 0 ≤ k → k < 2 → ∀ e, on e = true → As (23 * e + 1) = 1 → gt cm e (20 + k) = teS k r (60 + e)) (c1 : LyC cF cm) (c2 : ∀ k : Int, 0 ≤ k → k < 2 → ∀ a t, itP As on (teS k r) k a t → gt cF (deM t) (fldP k t) = liP As (teD k r) t) (c3 : ∀ e f : Int, (∀ k : Int, 0 ≤ k → k < 2 → ∀ a t, itP As on (teS k r) k a t → ¬ (e = deM t ∧ f = fldP k t)) → gt cF e f = gt cm e f) : SimC cF B ∧ Cls cF ∧ ∀ e, 0 ≤ e → e < 20 → (gt cF e 3 = 1 ↔ on e = true) := by
  obtain ⟨p1, p2, p3, p4, p5, p6, p7, p8, p9, p10, p11⟩ := id hP
  have hMB := LdI_MG h hI
  have hAB : StR A B := StR_trans hA (LdI_StR h hI)
  have hth : ∀ e, thM B e ↔ thM A e := fun e => Sh4_th (StR_4 hAB)
  have hths : ∀ e, thM As e ↔ thM A e := fun e => Sh4_th (StR_4 hA)
  have hnv : ∀ f v : Int, (f ≠ 3 ∧ f ≠ 7 ∧ f ≠ 8 ∧ (f < 15 ∨ 21 < f)) → offv f v = v := fun f v hf => by
    unfold offv
    (repeat' split) <;> first | rfl | omega
  have hcs : ∀ e f : Int, 0 ≤ e → e < 20 → f < 15 → f ≠ 3 → f ≠ 7 → f ≠ 8 → gt cF e f = gt (X 121) e f := fun e f e0 e1 f1 f3 f7 f8 => by
    rw [c1 e f (by omega), p6 e f (by omega) f3 f7 f8, hR e f e0 e1, hnv f _ (by omega)]
  have hpl : ∀ e f : Int, 0 ≤ e → e < 20 → 15 ≤ f → f < 20 → gt cm e f = -1 := fun e f e0 e1 f0 f1 => by
    rw [p6 e f f1 (by omega) (by omega) (by omega), hR e f e0 e1]
    unfold offv
    rw [if_neg (by omega), if_pos (by omega)]
  have h3 : ∀ e, 0 ≤ e → e < 20 → (gt cF e 3 = 1 ↔ on e = true) ∧ (gt cF e 3 = 0 ∨ gt cF e 3 = 1) := fun e e0 e1 => by
    rw [c1 e 3 (by omega)]
    refine ⟨⟨fun q => (p3.2.1 e (p5 e e0 e1 q)).2.1.mp q, fun q => (p3.2.1 e (p4 e q)).2.1.mpr q⟩, (hX e e0 e1).1⟩
  -- places of one that is OFF
  have hoffp : ∀ e f : Int, 0 ≤ e → e < 20 → on e = false → 15 ≤ f → f < 20 → gt cF e f = -1 := fun e f e0 e1 ho f0 f1 => by
    rw [c3 e f (fun k k0 k1 a t ht s => by
      have := ht.2.2.1
      rw [← s.1, ho] at this
      exact absurd this (by decide))]
    exact hpl e f e0 e1 f0 f1
  -- of an aperture
  have hap : ∀ e x : Int, on e = true → 0 ≤ x → x < As (23 * e + 5) → gt cF e (15 + x) = liP As (teD (As (23 * e + (6 + x))) r) (3 * e + x) := fun e x he x0 x1 => by
    have hr := th_rg (p4 e he)
    have h5 := MG_many p1.1 hr
    obtain ⟨w1, w2⟩ := ld_ap h he x0 x1
    have := c2 _ w1.1 w1.2 _ _ w2
    obtain ⟨d1, d2, d3, d4⟩ := de_ap hr.1 hr.2 x0 (show x < 3 by omega)
    have hf : fldP (As (23 * e + (6 + x))) (3 * e + x) = 15 + (3 * e + x) % 3 := if_pos d4
    rw [d1, hf, d3] at this
    exact this
  -- of a window
  have hwi : ∀ e k : Int, on e = true → As (23 * e + 1) = 1 → 0 ≤ k → k < 2 → gt cF e (18 + k) = if teS k r (60 + e) = 0 then -1 else liP As (teD k r) (60 + e) := fun e k he hb k0 k1 => by
    have hr := th_rg (p4 e he)
    have hd := de_br hr.1
    by_cases hz : teS k r (60 + e) = 0
    · rw [if_pos hz, c3 e (18 + k) (fun k' k0' k1' a t ht s => ?_)]
      · exact hpl e _ hr.1 hr.2 (by omega) (by omega)
      · obtain ⟨s1, s2⟩ := s
        by_cases q : t < 60
        · have hf : fldP k' t = 15 + t % 3 := if_pos q
          omega
        · have hf : fldP k' t = 18 + k' := if_neg q
          have hdt : deM t = t - 60 := if_neg q
          have hkk : k' = k := by omega
          have htt : t = 60 + e := by omega
          have h2 := ht.2.2.2.2
          rw [if_neg q, hkk, htt] at h2
          exact h2.2 hz
    · rw [if_neg hz]
      have := c2 k k0 k1 _ _ (ld_br h he hb hz)
      have hf : fldP k (60 + e) = 18 + k := if_neg hd.2.2
      rw [hd.1, hf] at this
      exact this
  have hapo : ∀ e x : Int, 0 ≤ e → e < 20 → 0 ≤ x → x < 3 → (-1 ≤ gt cF e (15 + x) ∧ gt cF e (15 + x) ≤ 1024) := fun e x e0 e1 x0 x1 => by
    by_cases ho : on e = true
    · by_cases hx : x < As (23 * e + 5)
      · rw [hap e x ho x0 hx]
        obtain ⟨w1, w2⟩ := ld_ap h ho x0 hx
        have := ld_bd h w1 w2
        omega
      · rw [c3 e (15 + x) (fun k k0 k1 a t ht s => ?_), hpl e _ e0 e1 (by omega) (by omega)]
        · omega
        · obtain ⟨s1, s2⟩ := s
          by_cases q : t < 60
          · have hf : fldP k t = 15 + t % 3 := if_pos q
            have h2 := ht.2.2.2.2
            rw [if_pos q, ← s1] at h2
            omega
          · have hf : fldP k t = 18 + k := if_neg q
            omega
    · rw [hoffp e _ e0 e1 (Bool.eq_false_iff.mpr ho) (by omega) (by omega)]
      omega
  have hst : ∀ e f : Int, 0 ≤ e → e < 20 → StF f → B (23 * e + f) = A (23 * e + f) := hAB
  have hsS : ∀ e f : Int, 0 ≤ e → e < 20 → StF f → As (23 * e + f) = A (23 * e + f) := hA
  refine ⟨fun e e0 e1 => ⟨by have := (hMB e e0 e1).1; omega, by have := (hMB e e0 e1).2.2.2.1; omega, fun hb0 => ?_, fun hb0 => ?_⟩, fun e e0 e1 => ?_, fun e e0 e1 => (h3 e e0 e1).1⟩
  · have htB : thM B e := ⟨e0, by omega, hb0⟩
    have ht := (hth e).mp htB
    obtain ⟨d1, d2, d3, d4, d5, d6, d7, d8, d9⟩ := sc_d t1 ht
    have h5 := MG_many hg (th_rg ht)
    have hB4 : onM B e ↔ on e = true := LdI_on h hI
    unfold SimD
    rw [hcs e 0 e0 e1 (by omega) (by omega) (by omega) (by omega), hcs e 1 e0 e1 (by omega) (by omega) (by omega) (by omega), hcs e 2 e0 e1 (by omega) (by omega) (by omega) (by omega), hcs e 6 e0 e1 (by omega) (by omega) (by omega) (by omega), hcs e 4 e0 e1 (by omega) (by omega) (by omega) (by omega), hcs e 5 e0 e1 (by omega) (by omega) (by omega) (by omega), hst e 1 e0 e1 (by unfold StF; omega), hst e 2 e0 e1 (by unfold StF; omega), hst e 3 e0 e1 (by unfold StF; omega), hst e 5 e0 e1 (by unfold StF; omega), hst e 15 e0 e1 (by unfold StF; omega), hst e 16 e0 e1 (by unfold StF; omega)]
    refine ⟨d1, d2, d3, ?_, d5, d6, d7, fun x x0 x1 => ?_, fun hb => ⟨(d9 hb).1, fun ho4 => ?_⟩⟩
    · obtain ⟨u1, u2⟩ := h3 e e0 e1
      have hm4 := (hMB e e0 e1).2.2.2.1
      by_cases q : on e = true
      · have := (hB4.mpr q).2
        rw [u1.mpr q, this]
      · have hne : B (23 * e + 4) ≠ 1 := fun s => q (hB4.mp ⟨htB, s⟩)
        have hn3 : gt cF e 3 ≠ 1 := fun s => q (u1.mp s)
        omega
    · rw [hcs e (9 + x) e0 e1 (by omega) (by omega) (by omega) (by omega), hcs e (12 + x) e0 e1 (by omega) (by omega) (by omega) (by omega), hst e (6 + x) e0 e1 (by unfold StF; omega), hst e (9 + x) e0 e1 (by unfold StF; omega)]
      refine ⟨(d8 x x0 x1).1, (d8 x x0 x1).2.1, ?_⟩
      have hx5 : x < As (23 * e + 5) := by rw [hsS e 5 e0 e1 (by unfold StF; omega)]; exact x1
      by_cases q : on e = true
      · rw [hap e x q x0 hx5, (fin_on h hI q).2.1 x x0 hx5]
      · have q' : on e = false := Bool.eq_false_iff.mpr q
        rw [hoffp e _ e0 e1 q' (by omega) (by omega), fin_off h hI ((hths e).mpr ht) q' _ (by omega) (by omega)]
        unfold ofv
        rw [if_neg (by omega), if_pos (by omega)]
    · have q : on e = true := hB4.mp ⟨htB, ho4⟩
      have hbs : As (23 * e + 1) = 1 := by rw [hsS e 1 e0 e1 (by unfold StF; omega)]; exact hb
      obtain ⟨f1, f2, f3, f4, f5⟩ := fin_on h hI q
      obtain ⟨u1, u2⟩ := p10 e q hbs
      refine ⟨?_, ?_, fun k k0 k1 => ?_⟩
      · rw [c1 e 7 (by omega), u1, f1 17 (by omega) (by omega) (by omega) (by omega)]
      · rw [c1 e 8 (by omega), u2, f1 18 (by omega) (by omega) (by omega) (by omega)]
      · obtain ⟨v1, v2⟩ := f4 hbs k k0 k1
        rw [v1, v2, hwi e k q hbs k0 k1, c1 e (20 + k) (by omega), h20 k k0 k1 e q hbs]
        exact ⟨rfl, rfl⟩
  · have hA0 : A (23 * e + 0) ≠ 1 := fun s => hb0 (by
      have := hst e 0 e0 e1 (by unfold StF; omega)
      rw [this]
      exact s)
    refine ⟨?_, fun s => ?_⟩
    · rw [hcs e 0 e0 e1 (by omega) (by omega) (by omega) (by omega)]
      exact ((t1 e e0 e1).2.2.2 hA0).1
    · rw [c1 e 3 (by omega)] at s
      exact hA0 ((hths e).mp (p5 e e0 e1 s)).2.2
  · obtain ⟨a1, a2, a3, a4, a5, a6, a7⟩ := hC e e0 e1
    obtain ⟨u1, u2⟩ := h3 e e0 e1
    obtain ⟨x1, x2⟩ := hX e e0 e1
    rw [hcs e 0 e0 e1 (by omega) (by omega) (by omega) (by omega), hcs e 2 e0 e1 (by omega) (by omega) (by omega) (by omega), hcs e 4 e0 e1 (by omega) (by omega) (by omega) (by omega), hcs e 5 e0 e1 (by omega) (by omega) (by omega) (by omega), hcs e 6 e0 e1 (by omega) (by omega) (by omega) (by omega)]
    have hwb : ∀ k : Int, 0 ≤ k → k < 2 → (-1 ≤ gt cF e (18 + k) ∧ gt cF e (18 + k) ≤ 1024) ∧ (0 ≤ gt cF e (20 + k) ∧ gt cF e (20 + k) ≤ 1024) ∧ (gt cF e 3 ≠ 1 → gt cF e (18 + k) = -1 ∧ gt cF e (20 + k) = 0) := fun k k0 k1 => by
      rw [c1 e (20 + k) (by omega)]
      by_cases q : on e = true
      · have ht := p4 e q
        have h01 := (p1.1 e e0 e1).1
        by_cases hb : As (23 * e + 1) = 1
        · rw [hwi e k q hb k0 k1, h20 k k0 k1 e q hb]
          by_cases hz : teS k r (60 + e) = 0
          · rw [if_pos hz, hz]
            exact ⟨by omega, by omega, fun s => absurd (u1.mpr q) s⟩
          · rw [if_neg hz]
            have := ld_bd h ⟨k0, k1⟩ (ld_br h q hb hz)
            exact ⟨by omega, by omega, fun s => absurd (u1.mpr q) s⟩
        · have hg0 := (p3.2.1 e ht).1
          rw [x2 (fun s => by omega) k k0 k1, c3 e (18 + k) (fun k' k0' k1' a t htt s => ?_), hpl e _ e0 e1 (by omega) (by omega)]
          · exact ⟨by omega, by omega, fun s => absurd (u1.mpr q) s⟩
          · obtain ⟨s1, s2⟩ := s
            by_cases q : t < 60
            · have hf : fldP k' t = 15 + t % 3 := if_pos q
              omega
            · have h2 := htt.2.2.2.2
              rw [if_neg q, ← s1] at h2
              exact hb h2.1
      · have q' : on e = false := Bool.eq_false_iff.mpr q
        have hn3 : gt cm e 3 ≠ 1 := fun s => q (u1.mp (by rw [c1 e 3 (by omega)]; exact s))
        rw [hoffp e _ e0 e1 q' (by omega) (by omega), x2 (fun s => hn3 s.2) k k0 k1]
        exact ⟨by omega, by omega, fun _ => ⟨rfl, rfl⟩⟩
    refine ⟨a1, a2, a3, a4, fun s => ⟨?_, (a5 s).2⟩, fun x x0 x1' => ?_, fun k k0 k1 => ?_⟩
    · rcases u2 with q | q
      · exact q
      · exfalso
        have ho := u1.mp q
        have ht := (hths e).mp (p4 e ho)
        have := (sc_th t1).mpr ht
        omega
    · obtain ⟨b1, b2, b3⟩ := a6 x x0 x1'
      rw [hcs e (12 + x) e0 e1 (by omega) (by omega) (by omega) (by omega)]
      exact ⟨b1, hapo e x e0 e1 x0 x1', b3⟩
    · obtain ⟨b1, b2, b3⟩ := hwb k k0 k1
      exact ⟨b1, b2, fun _ => b3⟩
end GA0
