/-! CLASS AND REFERENCE: about -/
section SA
variable {Inv : zM → Prop} {im : zM} {c A : Int → Int}
theorem lw_count {A : Int → Int} : ∀ (n : Nat) (i : Int) (y : (Int → Int) × Int), (lp (lwM A) n i y).2 = lp (cntf (thB A)) n i y.2
  | 0, _, _ => rfl
  | n + 1, i, y => by
    simp only [lp]
    rw [lw_count n (i + 1) (lwM A i y)]
    have e : (lwM A i y).2 = cntf (thB A) i y.2 := by
      unfold lwM cntf thB
      by_cases q : thM A i
      · rw [if_pos q, if_pos (decide_eq_true q)]
      · rw [if_neg q, if_neg (by simp [q])]
    rw [e]
theorem wa_count : (waM im).2 = lp (cntf (thB (im 172))) 20 0 0 := lw_count 20 0 (im 173, 0)
theorem sim_caps (h : SimC c A) : lp (capf c) 20 0 0 = lp (aoF A) 20 0 0 := lp_congr 20 0 0 (fun e h0 h1 s => by
  unfold capf aoF
  by_cases q : onM A e
  · have hd := sc_d h q.1
    have h8 := (h e h0 (by omega)).1
    rw [if_pos q]
    by_cases q2 : A (23 * e + 1) = 1
    · have h9 := (hd.2.2.2.2.2.2.2.2 q2).1
      rw [if_neg (fun r => by have := ((sc_ep h).mp r.1).2; omega), h9]
      omega
    · rw [if_pos ⟨(sc_ep h).mpr ⟨q.1, by omega⟩, (sc_on h).mpr q⟩, hd.2.2.2.2.1]
  · rw [if_neg q, if_neg (fun r => q ((sc_on h).mp r.2))])
theorem sim_gff (h : SimC c A) : lp (gff c) 20 0 0 = lp (gnF A) 20 0 0 := lp_congr 20 0 0 (fun e h0 h1 s => by
  unfold gff gnF
  by_cases q : onM A e ∧ A (23 * e + 1) = 1
  · have hd := sc_d h q.1.1
    have h7 := ((hd.2.2.2.2.2.2.2.2 q.2).2 q.1.2).1
    rw [if_pos ⟨(sc_br h).mpr ⟨q.1.1, q.2⟩, (sc_on h).mpr q.1⟩, h7]
    by_cases q3 : s < A (23 * e + 17)
    · rw [if_pos ⟨q, q3⟩]
      omega
    · rw [if_neg (fun r => q3 r.2)]
      omega
  · rw [if_neg (fun r => q ⟨(sc_on h).mp r.2, ((sc_br h).mp r.1).2⟩), if_neg (fun r => q r.1)])
theorem sp_about (hB : ∀ im, Inv im → Bas im) (hW : ∀ im, Inv im → WkE im (nowT (im 1 1))) (hb2 : ∀ im, Inv im → ∀ e, 0 ≤ gt (im (nowT (im 1 1) + 1)) e 6 + 1) : Sp1 99 Inv 135 273 := by
  intro im hI w _
  obtain ⟨hh, hm, ⟨hg, hu⟩, hb, ⟨hc, hs, h5, h4⟩, hr, hn⟩ := hB im hI
  refine (c_about (d := 96) hh rfl hb (hb2 im hI)).mpr ⟨_, rfl, (c_aboutM (d := 95) hg).mpr ⟨?_, hI⟩⟩
  have e0 : im (nowT (im 1 1)) 4 = lp (cntf (thB (im 172))) 20 0 0 := by rw [(hW im hI).1, wa_count]
  have e1 : lp (cntf (brB (im (nowT (im 1 1) + 1)))) 20 0 0 = lp (cntf (brB' (im 172))) 20 0 0 := cnt_congr 20 0 0 (fun _ _ _ => sim_brB hc)
  have e2 : lp (cntf (onB (im (nowT (im 1 1) + 1)))) 20 0 0 = lp (cntf (onB' (im 172))) 20 0 0 := cnt_congr 20 0 0 (fun _ _ _ => sim_onB hc)
  have e8 : spc (im (nowT (im 1 1) + 2)) 0 = im 172 460 := hs 0 (by omega) (by omega)
  have e9 : spc (im (nowT (im 1 1) + 2)) 1 = im 172 461 := hs 1 (by omega) (by omega)
  unfold abM' abA
  rw [e0, e1, e2, sim_caps hc, sim_gff hc, h5, hn.1, hn.2, e8, e9]
end SA
