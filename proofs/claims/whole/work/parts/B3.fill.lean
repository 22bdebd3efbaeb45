/-! THE STEP fill -/
section BN
variable {im X Y : zM} {c c' s sp A B w w' T : Int → Int} {e f a b x y d k m n u un st bg en bu v sz : Int} {z : zSS} {p q r : Int → Bool} {l : List (Int × Int)}
/-- one more each time: class and reference -/
theorem fill_eq {n : Nat} (hn : n < 11) (hz : SmSt z l) (hs : 1 ≤ (2 : Int) ^ n ∧ (2 : Int) ^ n ≤ 1024) (hw : BwM A bu k) (hnz : wiM A bu k ≠ 0) (hen : en = beM A bu k + wiM A bu k) : ∀ (m : Nat) (cn cur : Int) (T : Int → Int) (l' : List (Int × Int)), 0 ≤ cn → cn + m = 1024 → beM A bu k ≤ cur → cn ≤ cur → cur ≤ 1024 → TR T l' → (∀ p ∈ l', 1 ≤ p.2) → (∀ u, beM A bu k ≤ u → u % 2 ^ n = 0 → u < cur → ¬ FreL l' (2 ^ n) u) → (∀ u, beM A bu k ≤ u → u % 2 ^ n = 0 → cur ≤ u → (FreL l' (2 ^ n) u ↔ FreL l (2 ^ n) u)) → (flN A bu k (2 ^ n) (m + 1) cn T).1 = fiS z (2 ^ n) en m cn cur := by
  have hb := hw.2.2.resolve_left hnz
  intro m
  induction m with
  | zero =>
    intro cn cur T l' h0 h1 h2 h3 h3' hT hl i1 i2
    have hlo := loW_sp hn hT hl hs hw hnz
    simp only [flN, fiS]
    rcases hlo with ⟨q1, -⟩ | ⟨q1, q2, q3, q4, q5⟩
    · rw [if_pos (by omega)]
      omega
    · exfalso
      by_cases c : loW A T bu k (2 ^ n) (2 ^ n) < cur
      · exact i1 _ q1 q2 c q4
      · omega
  | succ m ih =>
    intro cn cur T l' h0 h1 h2 h3 h3' hT hl i1 i2
    have hlo := loW_sp hn hT hl hs hw hnz
    have hcl := lowS_sp (un := 2 ^ n) (bg := cur) (en := en) hn hz.1.1 hz.1.2 (SmSt_bd hz) (by omega)
    have he : lowS z (2 ^ n) (2 ^ n) cur en = loW A T bu k (2 ^ n) (2 ^ n) := by
      refine LowSp_uniq (F := FreL l' (2 ^ n)) (F' := FreL l' (2 ^ n)) (bg := beM A bu k) (en := en) (st := 2 ^ n) (sz := 2 ^ n) (fun _ _ _ => Iff.rfl) hb.1 ?_ (by rw [hen]; exact hlo)
      rcases hcl with ⟨q1, q2⟩ | ⟨q1, q2, q3, q4, q5⟩
      · refine Or.inl ⟨q1, fun u u0 u1 u2 => ?_⟩
        by_cases c : u < cur
        · exact i1 u u0 u1 c
        · exact fun hf => q2 u (by omega) u1 u2 ((SmSt_fre hz).mpr ((i2 u u0 u1 (by omega)).mp hf))
      · refine Or.inr ⟨by omega, q2, q3, (i2 _ (by omega) q2 q1).mpr ((SmSt_fre hz).mp q4), fun u u0 u1 u2 => ?_⟩
        by_cases c : u < cur
        · exact i1 u u0 u1 c
        · exact fun hf => q5 u (by omega) u1 u2 ((SmSt_fre hz).mpr ((i2 u u0 u1 (by omega)).mp hf))
    rw [show flN A bu k (2 ^ n) (m + 1 + 1) cn T = if loW A T bu k (2 ^ n) (2 ^ n) < 0 then (cn, T) else flN A bu k (2 ^ n) (m + 1) (cn + 1) (mkT T (loW A T bu k (2 ^ n) (2 ^ n)) (2 ^ n) 1) from rfl, show fiS z (2 ^ n) en (m + 1) cn cur = if lowS z (2 ^ n) (2 ^ n) cur en = -1 then cn else fiS z (2 ^ n) en m (cn + 1) (lowS z (2 ^ n) (2 ^ n) cur en + 2 ^ n) from rfl, he]
    rw [he] at hcl
    generalize hr : loW A T bu k (2 ^ n) (2 ^ n) = r at *
    rcases hcl with ⟨q1, q2⟩ | ⟨q1, q2, q3, q4, q5⟩
    · rw [if_pos (by omega), if_pos q1]
    · rw [if_neg (by omega), if_neg (by omega)]
      have hq : ∀ u : Int, u % 2 ^ n = 0 → r < u → r + 2 ^ n ≤ u := fun u u1 u2 => by
        have ep : (1 : Int) ≤ 2 ^ n := hs.1
        generalize (2 : Int) ^ n = s at *
        obtain ⟨a, ha⟩ := Int.dvd_of_emod_eq_zero q2
        obtain ⟨b, hb⟩ := Int.dvd_of_emod_eq_zero u1
        have h3 : a < b := by
          by_cases t : a < b
          · exact t
          · have : s * b ≤ s * a := Int.mul_le_mul_of_nonneg_left (by omega) (by omega)
            omega
        have h4 : s * (a + 1) ≤ s * b := Int.mul_le_mul_of_nonneg_left (by omega) (by omega)
        rw [Int.mul_add, Int.mul_one] at h4
        omega
      refine ih (cn + 1) (r + 2 ^ n) (mkT T r (2 ^ n) 1) ((r, 2 ^ n) :: l') (by omega) (by omega) (by omega) (by omega) (by omega) (TR_mk hT) (fun p hp => ?_) (fun u u0 u1 u2 hf => ?_) (fun u u0 u1 u2 => ?_)
      · rcases List.mem_cons.mp hp with rfl | hp
        · exact hs.1
        · exact hl p hp
      · have hfl : FreL l' (2 ^ n) u := fun p hp => hf p (List.mem_cons_of_mem _ hp)
        by_cases c : u < cur
        · exact i1 u u0 u1 c hfl
        · by_cases c2 : u < r
          · exact q5 u (by omega) u1 c2 ((SmSt_fre hz).mpr ((i2 u u0 u1 (by omega)).mp hfl))
          · have hu : u = r := by
              by_cases t : r < u
              · have := hq u u1 t
                omega
              · omega
            exact hf (r, 2 ^ n) List.mem_cons_self ⟨by dsimp only; omega, by dsimp only; omega⟩
      · rw [← i2 u u0 u1 (by omega)]
        constructor
        · exact fun hf p hp => hf p (List.mem_cons_of_mem _ hp)
        · intro hf p hp
          rcases List.mem_cons.mp hp with rfl | hp
          · dsimp only
            omega
          · exact hf p hp
theorem sp_fill : Sp3 99 (Inv gGd) 120 247 := by
  intro im hI a _ k _ x _
  have hc := Inv_c hI
  have g := Inv_g hI
  have hF := Inv_F hI
  have hC := Inv_Cls hI
  refine (c_fill (d := 94) (Inv_hh hI) rfl hF.1.2 (Cls_TG hC) (fun q => ?_)).mpr ?_
  · have h := iw_iff.mp ((hs_iff hc).mp q)
    exact buOK_now hc g (Inv_sp hI) h.1 (by omega)
  by_cases c1 : iwM (im 172) a k
  · rw [if_pos ((hs_iff hc).mpr c1)]
    obtain ⟨h1, h2⟩ := iw_iff.mp c1
    have hk : 0 ≤ k ∧ k < 2 := by omega
    have e172 : hsM im (nowT (im 1 1)) a k 172 = im 172 := hsM_ne (by omega)
    have e181 : hsM im (nowT (im 1 1)) a k 181 = im 181 := hsM_ne (by omega)
    have hM : CallP 99 247 [.inr (some 171), .inl a, .inl k, .inl x] (hsM im (nowT (im 1 1)) a k) = CallP (94 + 5) 247 [.inr (some 171), .inl a, .inl k, .inl x] (hsM im (nowT (im 1 1)) a k) := rfl
    by_cases c2 : 0 ≤ x ∧ x ≤ 8
    · rw [if_pos c2]
      refine ⟨_, rfl, (c_fillM (d := 94) (by rw [e172]; exact g.1.1) (by rw [e172]; exact fun _ => ft_now g h1)).mpr ?_⟩
      rw [e172, e181, if_pos ⟨c1, c2⟩]
      refine ⟨?_, Inv_hs hI (fun p h3 h4 => by rw [setc_ne _ _ h4, hsM_ne h3])⟩
      obtain ⟨b1, b2⟩ := beg_now hc g (Inv_sp hI) h1 hk
      obtain ⟨n, n1, n2, n3⟩ := zshl_pow c2
      have hp := pow_le8 n n1
      have hz := SmSt_now (z := gsh im 125) hc g hF (Cls_HsB hC) h1 hk
      have hw := bw_now g h1 hk
      rw [n3, b1, b2]
      unfold hsZ
      by_cases hnz : wiM (im 172) (bfM a) k = 0
      · rw [if_pos hnz]
        have e1 : (flN (im 172) (bfM a) k (2 ^ n) 1025 0 (laT (im 172) (im 181) (bfM a) k)).1 = 0 := by
          rw [show flN (im 172) (bfM a) k (2 ^ n) 1025 0 (laT (im 172) (im 181) (bfM a) k) = if loW (im 172) (laT (im 172) (im 181) (bfM a) k) (bfM a) k (2 ^ n) (2 ^ n) < 0 then (0, laT (im 172) (im 181) (bfM a) k) else flN (im 172) (bfM a) k (2 ^ n) 1024 (0 + 1) (mkT (laT (im 172) (im 181) (bfM a) k) (loW (im 172) (laT (im 172) (im 181) (bfM a) k) (bfM a) k (2 ^ n) (2 ^ n)) (2 ^ n) 1) from rfl, if_pos]
          unfold loW
          rw [if_pos hnz]
          decide
        have e2 := low_eq (n := n) (bg := 0) (en := 0 + wiM (im 172) (bfM a) k) (sz := 2 ^ n) (by omega) hz (TR_la (T := im 181) g.1.1) (by omega) hw (by rw [if_pos hnz]) rfl
        have e3 : loW (im 172) (laT (im 172) (im 181) (bfM a) k) (bfM a) k (2 ^ n) (2 ^ n) = -1 := if_pos hnz
        rw [e3] at e2
        rw [e1, show fiS (gatS (im (nowT (im 1 1) + 1)) (im (nowT (im 1 1) + 3)) (im (nowT (im 1 1)) 4) a k (gsh im 125)) (2 ^ n) (0 + wiM (im 172) (bfM a) k) 1024 0 0 = if lowS (gatS (im (nowT (im 1 1) + 1)) (im (nowT (im 1 1) + 3)) (im (nowT (im 1 1)) 4) a k (gsh im 125)) (2 ^ n) (2 ^ n) 0 (0 + wiM (im 172) (bfM a) k) = -1 then 0 else fiS (gatS (im (nowT (im 1 1) + 1)) (im (nowT (im 1 1) + 3)) (im (nowT (im 1 1)) 4) a k (gsh im 125)) (2 ^ n) (0 + wiM (im 172) (bfM a) k) 1023 (0 + 1) (lowS (gatS (im (nowT (im 1 1) + 1)) (im (nowT (im 1 1) + 3)) (im (nowT (im 1 1)) 4) a k (gsh im 125)) (2 ^ n) (2 ^ n) 0 (0 + wiM (im 172) (bfM a) k) + 2 ^ n) from rfl, if_pos e2]
      · rw [if_neg hnz]
        have hb := hw.2.2.resolve_left hnz
        rw [fill_eq (by omega) hz (by omega) hw hnz rfl 1024 0 (beM (im 172) (bfM a) k) _ _ (by omega) (by omega) (by omega) (by omega) (by omega) (TR_la (T := im 181) g.1.1) (fun p hp => (hz.2.2.2 p hp).1) (fun u u0 u1 u2 => by omega) (fun u u0 u1 u2 => Iff.rfl)]
    · rw [if_neg c2]
      refine ⟨_, rfl, (c_fillM (d := 94) (by rw [e172]; exact g.1.1) (by rw [e172]; exact fun _ => ft_now g h1)).mpr ?_⟩
      rw [e172, if_neg (fun q => c2 q.2)]
      exact ⟨rfl, Inv_hs hI (fun p h3 h4 => hsM_ne h3)⟩
  · rw [if_neg (fun q => c1 ((hs_iff hc).mp q))]
    refine ⟨_, rfl, (c_fillM (d := 94) g.1.1 (fun q => absurd q c1)).mpr ?_⟩
    rw [if_neg (fun q => c1 q.1)]
    exact ⟨rfl, hI⟩
end BN
