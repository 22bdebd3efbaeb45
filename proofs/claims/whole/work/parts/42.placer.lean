/-! THE CLASS'S PLACER: its memory; what holds of all on a shelf -/
section PL
variable {d s t u o : Nat} {im : zM} {Q : Option zV → zM → Prop} {a b v dv kd sl i j : Int}
def AllS (p : Int → Int → Int → Int → Int → Prop) (z : zSS) : Prop := 0 ≤ z.2.2.2.2.2 ∧ z.2.2.2.2.2 ≤ 27 ∧ ∀ i : Int, 0 ≤ i → i < z.2.2.2.2.2 → p (z.1 i) (z.2.1 i) (z.2.2.1 i) (z.2.2.2.1 i) (z.2.2.2.2.1 i)
section AL
variable {p q : Int → Int → Int → Int → Int → Prop} {z y : zSS}
theorem AllS_mono (h : AllS p z) (hpq : ∀ a b c d e, p a b c d e → q a b c d e) : AllS q z := ⟨h.1, h.2.1, fun i h0 h1 => hpq _ _ _ _ _ (h.2.2 i h0 h1)⟩
theorem AllS_and (h : AllS p z) (h2 : AllS q z) : AllS (fun a b c d e => p a b c d e ∧ q a b c d e) z := ⟨h.1, h.2.1, fun i h0 h1 => ⟨h.2.2 i h0 h1, h2.2.2 i h0 h1⟩⟩
theorem AllS_clr (p : Int → Int → Int → Int → Int → Prop) (z : zSS) : AllS p (clrS z) := ⟨Int.le_refl _, by show (0 : Int) ≤ 27; omega, fun i h0 h1 => by
  have h2 : i < 0 := h1
  omega⟩
theorem AllS_add {e1 e2 e3 e4 e5 : Int} (h : AllS p z) (hp : p e1 e2 e3 e4 e5) : AllS p (addS z e1 e2 e3 e4 e5) := by
  unfold addS
  split
  · rename_i hr
    refine ⟨by show 0 ≤ z.2.2.2.2.2 + 1; omega, by show z.2.2.2.2.2 + 1 ≤ 27; omega, fun i h0 h1 => ?_⟩
    have h1' : i < z.2.2.2.2.2 + 1 := h1
    by_cases hi : i = z.2.2.2.2.2
    · subst hi
      simp only [ups_at]
      exact hp
    · simp only [ups_ne _ _ hi]
      exact h.2.2 i h0 (by omega)
  · exact h
theorem AllS_adf (h : AllS p z) (hy : ∀ i, 0 ≤ i → i < y.2.2.2.2.2 → p (y.1 i) (y.2.1 i) (y.2.2.1 i) (y.2.2.2.1 i) (y.2.2.2.2.1 i)) : AllS p (adfS z y i) := by
  unfold adfS
  split
  · rename_i hr
    exact AllS_add h (hy i hr.1 hr.2.1)
  · exact h
theorem lp_ind {S : Type} (f : Int → S → S) (P : S → Prop) : ∀ (n : Nat) (i : Int) (s : S), P s → (∀ j s, i ≤ j → j < i + n → P s → P (f j s)) → P (lp f n i s)
  | 0, i, s, h, _ => h
  | n + 1, i, s, h, hf => lp_ind f P n (i + 1) (f i s) (hf i s (Int.le_refl _) (by omega) h) (fun j s h1 h2 => hf j s (by omega) (by omega))
theorem swf_cases (c : Int → Int) (j i : Int) : swf c j i = if i = j - 1 then c j else if i = j then c (j - 1) else c i := by
  unfold swf
  by_cases h : i = j - 1
  · rw [h, ups_at, if_pos rfl]
  · rw [ups_ne _ _ h, if_neg h]
    by_cases h2 : i = j
    · rw [h2, ups_at, if_pos rfl]
    · rw [ups_ne _ _ h2, if_neg h2]
theorem AllS_sw5 (h : AllS p z) (hj : 0 < j ∧ j < z.2.2.2.2.2) : AllS p (sw5 z j) := by
  refine ⟨h.1, h.2.1, fun i h0 h1 => ?_⟩
  have h1' : i < z.2.2.2.2.2 := h1
  simp only [sw5, swf_cases]
  by_cases e : i = j - 1
  · simp only [if_pos e]
    exact h.2.2 j (by omega) (by omega)
  · simp only [if_neg e]
    by_cases e2 : i = j
    · simp only [if_pos e2]
      exact h.2.2 (j - 1) (by omega) (by omega)
    · simp only [if_neg e2]
      exact h.2.2 i h0 h1'
theorem AllS_ordI : ∀ (j : Nat) (z : zSS), AllS p z → (j : Int) < z.2.2.2.2.2 → AllS p (ordI j z)
  | 0, z, h, hj => h
  | j + 1, z, h, hj => by
    simp only [ordI]
    split
    · exact AllS_ordI j _ (AllS_sw5 h (by omega)) (by show (j : Int) < z.2.2.2.2.2; omega)
    · exact h
theorem AllS_ord (h : AllS p z) : AllS p (ordS z) := by
  have := lp_ind ordf (fun y => AllS p y ∧ y.2.2.2.2.2 = z.2.2.2.2.2) (min z.2.2.2.2.2 27 - 1).toNat 1 z ⟨h, rfl⟩ (fun j s h0 h1 hs => by
    have hn := hs.2
    refine ⟨AllS_ordI _ _ hs.1 (by omega), ?_⟩
    unfold ordf
    rw [ordI_n]
    exact hn)
  exact this.1
theorem ordS_n (z : zSS) : (ordS z).2.2.2.2.2 = z.2.2.2.2.2 :=
  lp_ind ordf (fun y => y.2.2.2.2.2 = z.2.2.2.2.2) (min z.2.2.2.2.2 27 - 1).toNat 1 z rfl (fun j s h0 h1 hs => by
    unfold ordf
    rw [ordI_n]
    exact hs)
theorem AllS_aps {c : Int → Int} {e k : Int} (h : AllS p z) (hp : ∀ a, 0 ≤ a → a < gt c e 6 → gt c e (9 + a) = k → p e a (gt c e (12 + a)) (gt c e (12 + a)) (gt c e (15 + a))) : AllS p (apsS c e k z) :=
  lp_ind (apsf c e k) (AllS p) _ 0 z h (fun j s h0 h1 hs => by
    unfold apsf
    split
    · rename_i hk
      exact AllS_add hs (hp j h0 (by omega) hk)
    · exact hs)
theorem AllS_gat {c w : Int → Int} {n a k : Int} (hp : ∀ e b, gt c e 1 = a → gt c e 3 = 1 → gt c e 0 = 1 → 0 ≤ b → b < gt c e 6 → gt c e (9 + b) = k → p e b (gt c e (12 + b)) (gt c e (12 + b)) (gt c e (15 + b))) (hw : ∀ e, gt c e 1 = a → gt c e 3 = 1 → gt c e 0 ≠ 1 → 0 < gt c e (20 + k) → p e (-1) (gt c e (22 + k)) (gt c e (20 + k)) (gt c e (18 + k))) : AllS p (gatS c w n a k z) :=
  lp_ind (gaf c w n a k) (AllS p) _ 0 _ (AllS_clr p z) (fun j s h0 h1 hs => by
    unfold gaf
    split
    · rename_i h2
      split
      · rename_i h3
        exact AllS_aps hs (fun b => hp _ b h2.1 h2.2 h3)
      · rename_i h3
        split
        · rename_i h4
          exact AllS_add hs (hw _ h2.1 h2.2 h3 h4)
        · exact hs
    · exact hs)
end AL
/-- good things: bounds -/
def pG : Int → Int → Int → Int → Int → Prop := fun o a _ sz bs => (0 ≤ o ∧ o < 20) ∧ (-1 ≤ a ∧ a ≤ 2) ∧ (1 ≤ sz ∧ sz ≤ 1048576) ∧ (-1 ≤ bs ∧ bs ≤ 1048576)
def SG (z : zSS) : Prop := AllS pG z
def pA : Int → Int → Int → Int → Int → Prop := fun _ a _ _ _ => a ≠ -1
def SA (z : zSS) : Prop := AllS pA z
/-- a good tree: bounds -/
def TG (c : Int → Int) : Prop := TB c ∧ ∀ e, 0 ≤ e → e < 20 → (∀ a, 0 ≤ a → a < gt c e 6 → 1 ≤ gt c e (12 + a) ∧ (-1 ≤ gt c e (15 + a) ∧ gt c e (15 + a) ≤ 1048576)) ∧ ∀ k, 0 ≤ k → k < 2 → (0 ≤ gt c e (20 + k) ∧ gt c e (20 + k) ≤ 1048576) ∧ (-1 ≤ gt c e (18 + k) ∧ gt c e (18 + k) ≤ 1048576)
theorem gt_in {c : Int → Int} {e f : Int} (h : gt c e f ≠ -1) : 0 ≤ e ∧ e < 20 := by
  unfold gt at h
  split at h
  · omega
  · omega
theorem SG_aps {c : Int → Int} {e k : Int} {z : zSS} (hc : TG c) (h : SG z) : SG (apsS c e k z) :=
  AllS_aps h (fun a h0 h1 _ => by
    have hb := (hc.1 e).1
    have hs := (hc.1 e).2 a h0 (by omega)
    have he : 0 ≤ e ∧ e < 20 := gt_in (c := c) (f := 6) (by omega)
    have hg := (hc.2 e he.1 he.2).1 a h0 h1
    exact ⟨he, by omega, by omega, by omega⟩)
theorem SG_gat {c w : Int → Int} {n k : Int} {z : zSS} (hc : TG c) (hk : 0 ≤ k ∧ k < 2) : SG (gatS c w n a k z) :=
  AllS_gat (fun e b _ _ _ h0 h1 _ => by
    have hb := (hc.1 e).1
    have hs := (hc.1 e).2 b h0 (by omega)
    have he : 0 ≤ e ∧ e < 20 := gt_in (c := c) (f := 6) (by omega)
    have hg := (hc.2 e he.1 he.2).1 b h0 h1
    exact ⟨he, by omega, by omega, by omega⟩) (fun e h1 _ _ h2 => by
    have he : 0 ≤ e ∧ e < 20 := gt_in (c := c) (f := 20 + k) (by omega)
    have hg := (hc.2 e he.1 he.2).2 k hk.1 hk.2
    exact ⟨he, by omega, by omega, by omega⟩)
theorem SA_aps {c : Int → Int} {e k : Int} {z : zSS} (h : SA z) : SA (apsS c e k z) :=
  AllS_aps h (fun a h0 _ _ => by show a ≠ -1; omega)
theorem SBx_of {z : zSS} (h : SG z) (e : gsh im s = z) : SBx im s := by
  subst e
  intro i h0 h1 h2
  have := h.2.2 i h0 h2
  exact ⟨⟨this.2.2.2.1, by have := this.2.2.2.2; have e : (gsh im s).2.2.2.2.1 i = im (s + 5) i := rfl; omega⟩, by have := this.2.2.1; have e : (gsh im s).2.2.2.1 i = im (s + 4) i := rfl; omega⟩
theorem metS_SG {z : zSS} (h : SG z) {wh un bt : Int} : metS z.2.2.2.2.1 z.2.2.2.1 z.2.2.2.2.2 wh un bt = -1 ∨ (0 ≤ z.2.2.2.2.1 (metS z.2.2.2.2.1 z.2.2.2.1 z.2.2.2.2.2 wh un bt) + z.2.2.2.1 (metS z.2.2.2.2.1 z.2.2.2.1 z.2.2.2.2.2 wh un bt) ∧ z.2.2.2.2.1 (metS z.2.2.2.2.1 z.2.2.2.1 z.2.2.2.2.2 wh un bt) + z.2.2.2.1 (metS z.2.2.2.2.1 z.2.2.2.1 z.2.2.2.2.2 wh un bt) ≤ 2097152) := by
  rcases metS_cases z.2.2.2.2.1 z.2.2.2.1 z.2.2.2.2.2 wh un bt with h1 | ⟨h1, h2, h3, _⟩
  · exact Or.inl h1
  · have := h.2.2 _ h1 h3
    unfold pG at this
    exact Or.inr (by omega)
theorem lowf_cases {z : zSS} (h : SG z) {un st en : Int} (hst : 1 ≤ st ∧ st ≤ 1048576) : ∀ (n : Nat) (wh : Int), 0 ≤ wh → lowf z.2.2.2.2.1 z.2.2.2.1 z.2.2.2.2.2 un st en n wh = -1 ∨ (0 ≤ lowf z.2.2.2.2.1 z.2.2.2.1 z.2.2.2.2.2 un st en n wh ∧ lowf z.2.2.2.2.1 z.2.2.2.1 z.2.2.2.2.2 un st en n wh + un ≤ en)
  | 0, wh, h0 => Or.inl rfl
  | n + 1, wh, h0 => by
    simp only [lowf]
    split
    · exact Or.inl rfl
    · split
      · exact Or.inr (by omega)
      · rename_i h1 h2
        rcases metS_SG h (wh := wh) (un := un) (bt := -1) with h3 | h3
        · exact absurd h3 h2
        · exact lowf_cases h hst n _ (rup_le (by omega) (by omega)).1
theorem lowS_cases {z : zSS} (h : SG z) {un st bg en : Int} (hst : 1 ≤ st ∧ st ≤ 1048576) (hb : 0 ≤ bg ∧ bg ≤ 1048576) : lowS z un st bg en = -1 ∨ (0 ≤ lowS z un st bg en ∧ lowS z un st bg en + un ≤ en) :=
  lowf_cases h hst _ _ (rup_le (by omega) (by omega)).1
theorem sth_congr {im im' : zM} {s p : Nat} {z : zSS} (h : im s = im' s) (h1 : s ≤ p ∧ p ≤ s + 5) : sth im s z p = sth im' s z p := by
  rcases (show p = s ∨ p = s + 1 ∨ p = s + 2 ∨ p = s + 3 ∨ p = s + 4 ∨ p = s + 5 by omega) with rfl | rfl | rfl | rfl | rfl | rfl
  · unfold sth
    rw [setc_at, setc_at, h]
  · rw [sth_1, sth_1]
  · rw [sth_2, sth_2]
  · rw [sth_3, sth_3]
  · rw [sth_4, sth_4]
  · rw [sth_5, sth_5]
theorem sth_comm {z y : zSS} (h : s + 5 < u ∨ u + 5 < s) : sth (sth im s z) u y = sth (sth im u y) s z := by
  funext p
  by_cases hp : s ≤ p ∧ p ≤ s + 5
  · rw [sth_ne _ _ (by omega), sth_congr (sth_ne (s := u) im y (by omega)) hp]
  · rw [sth_ne (s := s) _ _ (by omega)]
    by_cases hq : u ≤ p ∧ p ≤ u + 5
    · exact sth_congr (sth_ne (s := s) im z (by omega)) hq
    · rw [sth_ne (s := u) _ _ (by omega), sth_ne (s := u) _ _ (by omega), sth_ne (s := s) _ _ (by omega)]
theorem sth_setc {z : zSS} {q : Nat} {r : Int → Int} (h : q < s ∨ s + 5 < q) : sth (setc im q r) s z = setc (sth im s z) q r := by
  funext p
  by_cases hp : s ≤ p ∧ p ≤ s + 5
  · rw [setc_ne _ _ (by omega)]
    exact sth_congr (setc_ne _ _ (by omega)) hp
  · rw [sth_ne _ _ (by omega)]
    by_cases hq : p = q
    · rw [hq, setc_at, setc_at]
    · rw [setc_ne _ _ hq, setc_ne _ _ hq, sth_ne _ _ (by omega)]
abbrev zPl : Type := (Int → Int) × zSS × zSS × zSS × zSS × (Int → Int)
def plm (im : zM) (t : Nat) (P : zPl) : zM := setc (sth (sth (sth (sth (setc im (t + 1) P.1) 139 P.2.1) 145 P.2.2.1) 151 P.2.2.2.1) 157 P.2.2.2.2.1) 163 P.2.2.2.2.2
theorem plm_o {P : zPl} {p : Nat} (h : p < 139 ∨ 163 < p) (h1 : p ≠ t + 1) : plm im t P p = im p := by
  unfold plm
  rw [setc_ne _ _ (by omega), sth_ne _ _ (by omega), sth_ne _ _ (by omega), sth_ne _ _ (by omega), sth_ne _ _ (by omega), setc_ne _ _ h1]
theorem plm_c (ht : zT t) {P : zPl} : plm im t P (t + 1) = P.1 := by
  have ap := zT_124 ht
  unfold plm
  rw [setc_ne _ _ (by omega), sth_ne _ _ (by omega), sth_ne _ _ (by omega), sth_ne _ _ (by omega), sth_ne _ _ (by omega), setc_at]
theorem plm_w (ht : zT t) {P : zPl} : plm im t P (t + 3) = im (t + 3) := by
  have ap := zT_124 ht
  exact plm_o (by omega) (by omega)
theorem plm_s (ht : zT t) {P : zPl} : plm im t P (t + 2) = im (t + 2) := by
  have ap := zT_124 ht
  exact plm_o (by omega) (by omega)
theorem plm_n (ht : zT t) {P : zPl} : plm im t P t = im t := by
  have ap := zT_124 ht
  exact plm_o (by omega) (by omega)
theorem gsh_setc {q : Nat} {r : Int → Int} (h : q < s ∨ s + 5 < q) : gsh (setc im q r) s = gsh im s := by
  unfold gsh
  simp (disch := omega) only [setc_ne]
theorem gsh_ne {z : zSS} (h : s + 5 < u ∨ u + 5 < s) : gsh (sth im u z) s = gsh im s := by
  unfold gsh
  simp (disch := omega) only [sth_ne]
theorem plm_g1 {P : zPl} : gsh (plm im t P) 139 = P.2.1 := by
  unfold plm
  rw [gsh_setc (by omega), gsh_ne (by omega), gsh_ne (by omega), gsh_ne (by omega), gsh_sth]
theorem plm_g2 {P : zPl} : gsh (plm im t P) 145 = P.2.2.1 := by
  unfold plm
  rw [gsh_setc (by omega), gsh_ne (by omega), gsh_ne (by omega), gsh_sth]
theorem plm_g3 {P : zPl} : gsh (plm im t P) 151 = P.2.2.2.1 := by
  unfold plm
  rw [gsh_setc (by omega), gsh_ne (by omega), gsh_sth]
theorem plm_g4 {P : zPl} : gsh (plm im t P) 157 = P.2.2.2.2.1 := by
  unfold plm
  rw [gsh_setc (by omega), gsh_sth]
theorem plm_ch {P : zPl} : plm im t P 163 = P.2.2.2.2.2 := by
  unfold plm
  rw [setc_at]
theorem plm_n1 {P : zPl} : plm im t P 139 5 = P.2.1.2.2.2.2.2 := congrArg (fun z : zSS => z.2.2.2.2.2) (plm_g1 (im := im) (t := t) (P := P))
theorem plm_n2 {P : zPl} : plm im t P 145 5 = P.2.2.1.2.2.2.2.2 := congrArg (fun z : zSS => z.2.2.2.2.2) (plm_g2 (im := im) (t := t) (P := P))
theorem plm_n3 {P : zPl} : plm im t P 151 5 = P.2.2.2.1.2.2.2.2.2 := congrArg (fun z : zSS => z.2.2.2.2.2) (plm_g3 (im := im) (t := t) (P := P))
theorem plm_n4 {P : zPl} : plm im t P 157 5 = P.2.2.2.2.1.2.2.2.2.2 := congrArg (fun z : zSS => z.2.2.2.2.2) (plm_g4 (im := im) (t := t) (P := P))
theorem plm_141 {P : zPl} : plm im t P 141 = P.2.1.2.1 := congrArg (fun z : zSS => z.2.1) (plm_g1 (im := im) (t := t) (P := P))
theorem plm_158 {P : zPl} : plm im t P 158 = P.2.2.2.2.1.1 := congrArg (fun z : zSS => z.1) (plm_g4 (im := im) (t := t) (P := P))
theorem plm_159 {P : zPl} : plm im t P 159 = P.2.2.2.2.1.2.1 := congrArg (fun z : zSS => z.2.1) (plm_g4 (im := im) (t := t) (P := P))
theorem plm_161 {P : zPl} : plm im t P 161 = P.2.2.2.2.1.2.2.2.1 := congrArg (fun z : zSS => z.2.2.2.1) (plm_g4 (im := im) (t := t) (P := P))
theorem plm_162 {P : zPl} : plm im t P 162 = P.2.2.2.2.1.2.2.2.2.1 := congrArg (fun z : zSS => z.2.2.2.2.1) (plm_g4 (im := im) (t := t) (P := P))
theorem plm_sc (ht : zT t) {P : zPl} {c : Int → Int} : setc (plm im t P) (t + 1) c = plm im t (c, P.2) := by
  have ap := zT_124 ht
  unfold plm
  rw [setc_comm _ _ _ (by omega)]
  simp (disch := omega) only [← sth_setc, setc_setc]
theorem plm_sch {P : zPl} {c : Int → Int} : setc (plm im t P) 163 c = plm im t (P.1, P.2.1, P.2.2.1, P.2.2.2.1, P.2.2.2.2.1, c) := by
  unfold plm
  rw [setc_setc]
theorem plm_s4 {P : zPl} {z : zSS} : sth (plm im t P) 157 z = plm im t (P.1, P.2.1, P.2.2.1, P.2.2.2.1, z, P.2.2.2.2.2) := by
  unfold plm
  rw [sth_setc (by omega), sth_sth]
theorem plm_s3 {P : zPl} {z : zSS} : sth (plm im t P) 151 z = plm im t (P.1, P.2.1, P.2.2.1, z, P.2.2.2.2.1, P.2.2.2.2.2) := by
  unfold plm
  rw [sth_setc (by omega), sth_comm (s := 157) (by omega), sth_sth]
theorem plm_s2 {P : zPl} {z : zSS} : sth (plm im t P) 145 z = plm im t (P.1, P.2.1, z, P.2.2.2.1, P.2.2.2.2.1, P.2.2.2.2.2) := by
  unfold plm
  rw [sth_setc (by omega), sth_comm (s := 157) (by omega), sth_comm (s := 151) (by omega), sth_sth]
theorem plm_s1 {P : zPl} {z : zSS} : sth (plm im t P) 139 z = plm im t (P.1, z, P.2.2.1, P.2.2.2.1, P.2.2.2.2.1, P.2.2.2.2.2) := by
  unfold plm
  rw [sth_setc (by omega), sth_comm (s := 157) (by omega), sth_comm (s := 151) (by omega), sth_comm (s := 145) (by omega), sth_sth]
theorem setc_5 (im : zM) (s : Nat) (r : Int → Int) : setc im (s + 5) r = sth im s (im (s + 1), im (s + 2), im (s + 3), im (s + 4), r, im s 5) := by
  have := sth_rows im s (im (s + 1)) (im (s + 2)) (im (s + 3)) (im (s + 4)) r
  rw [setc_self, setc_self, setc_self, setc_self] at this
  exact this
theorem plm_162s {P : zPl} {r : Int → Int} : setc (plm im t P) 162 r = plm im t (P.1, P.2.1, P.2.2.1, P.2.2.2.1, (P.2.2.2.2.1.1, P.2.2.2.2.1.2.1, P.2.2.2.2.1.2.2.1, P.2.2.2.2.1.2.2.2.1, r, P.2.2.2.2.1.2.2.2.2.2), P.2.2.2.2.2) := by
  rw [setc_5 _ 157 r, plm_s4]
  have h := plm_g4 (im := im) (t := t) (P := P)
  have e1 : plm im t P (157 + 1) = P.2.2.2.2.1.1 := congrArg (fun z : zSS => z.1) h
  have e2 : plm im t P (157 + 2) = P.2.2.2.2.1.2.1 := congrArg (fun z : zSS => z.2.1) h
  have e3 : plm im t P (157 + 3) = P.2.2.2.2.1.2.2.1 := congrArg (fun z : zSS => z.2.2.1) h
  have e4 : plm im t P (157 + 4) = P.2.2.2.2.1.2.2.2.1 := congrArg (fun z : zSS => z.2.2.2.1) h
  have e5 : plm im t P 157 5 = P.2.2.2.2.1.2.2.2.2.2 := congrArg (fun z : zSS => z.2.2.2.2.2) h
  rw [e1, e2, e3, e4, e5]
def plG (im : zM) (t : Nat) : zPl := (im (t + 1), gsh im 139, gsh im 145, gsh im 151, gsh im 157, im 163)
theorem plm_self (im : zM) (t : Nat) : plm im t (plG im t) = im := by
  unfold plm plG
  dsimp only
  rw [setc_self, sth_gsh, sth_gsh, sth_gsh, sth_gsh, setc_self]
theorem zSh_139 : zSh 139 := by decide
theorem zSh_145 : zSh 145 := by decide
theorem zSh_151 : zSh 151 := by decide
theorem zSh_157 : zSh 157 := by decide
end PL
