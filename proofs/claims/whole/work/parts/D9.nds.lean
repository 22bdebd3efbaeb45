/-! NEEDS: the class's are the needs -/
section DJ
variable {A B S P D S' P' D' c c' c0 w N G N' G' τ al sz bs' : Int → Int} {on : Int → Bool} {e f a b k t x y v n d i : Int} {l l' : List Int} {z : zSS}
theorem lyD_set : ∀ (l : List Int) (v : Int), lyD S P D l v → (∀ t ∈ l, D t = D' t) → lyD S P D' l v := fun l v h he => lyD_congr l v (fun t ht => ⟨rfl, rfl, he t ht⟩) h
/-- the class's table, measured, is the needs; where things stand on a bus -/
theorem nds_cls (g : gT A) (hF : WkF A w n) (hon : ∀ e, on e = true → thM A e) (hm : MeC c A on) (hW : MsW c on k) (hB : ∀ e, on e = true → A (23 * e + 1) = 1 → BrC c A on k e) : ∃ D, NdS A on k (szC c k) (alC c k) D (fun a => (ndS c w n a k z).1) (fun a => galS (gatS c w n a k z)) ∧ ∀ (a : Int) (z' : zSS), (ndS c w n a k z').1 = (ndS c w n a k z).1 ∧ galS (gatS c w n a k z') = galS (gatS c w n a k z) ∧ ∃ l, BusL A on k (szC c k) (alC c k) a l ∧ lyD (szC c k) (alC c k) D l 0 ∧ (ndS c w n a k z').1 = lyE (szC c k) (alC c k) l 0 ∧ shL (ndS c w n a k z').2 = l.map (fun t => (deM t, apV t, alC c k t, szC c k t, D t)) ∧ (0 ≤ (ndS c w n a k z').2.2.2.2.2.2 ∧ (ndS c w n a k z').2.2.2.2.2.2 ≤ 24) := by
  have hnd := fun (a : Int) (z : zSS) => nd_sp (z := z) (a := a) (k := k) g hF hon hm (fun x hx => (hW x hx).1.1) (fun t ht => me_bd g hon hm hW ht)
  have hch : ∃ D : Int → Int, ∀ a : Int, ∃ l, BusL A on k (szC c k) (alC c k) a l ∧ lyD (szC c k) (alC c k) D l 0 := by
    have h1 : ∀ a : Int, ∃ D, ∃ l, BusL A on k (szC c k) (alC c k) a l ∧ lyD (szC c k) (alC c k) D l 0 := fun a => by
      obtain ⟨l, D, q1, q2, -⟩ := hnd a z
      exact ⟨D, l, q1, q2⟩
    refine ⟨fun t => Classical.choose (h1 (A (23 * deM t + 2))) t, fun a => ?_⟩
    obtain ⟨l, q1, q2⟩ := Classical.choose_spec (h1 a)
    refine ⟨l, q1, lyD_set l 0 q2 (fun t ht => ?_)⟩
    have := ((q1.2 t).mp ht).2.2.2.1
    show _ = Classical.choose (h1 (A (23 * deM t + 2))) t
    rw [this]
  obtain ⟨D, hD⟩ := hch
  have hrefl : ∀ a t, itP A on (szC c k) k a t ∨ itP A on (szC c k) k a t → szC c k t = szC c k t ∧ alC c k t = alC c k t := fun _ _ _ => ⟨rfl, rfl⟩
  have hall : ∀ (a : Int) (z' : zSS), ∃ l, BusL A on k (szC c k) (alC c k) a l ∧ lyD (szC c k) (alC c k) D l 0 ∧ (ndS c w n a k z').1 = lyE (szC c k) (alC c k) l 0 ∧ galS (gatS c w n a k z') = lyG (alC c k) l ∧ shL (ndS c w n a k z').2 = l.map (fun t => (deM t, apV t, alC c k t, szC c k t, D t)) ∧ (0 ≤ (ndS c w n a k z').2.2.2.2.2.2 ∧ (ndS c w n a k z').2.2.2.2.2.2 ≤ 24) := fun a z' => by
    obtain ⟨l, D', q1, q2, q3, q4, q5, q6, q7⟩ := hnd a z'
    obtain ⟨l2, r1, r2⟩ := hD a
    have e := BusL_uniq q1 r1 (hrefl a)
    subst e
    refine ⟨l, q1, r2, q3, q4, ?_, q7⟩
    rw [q6]
    refine List.map_congr_left (fun t ht => ?_)
    rw [lyD_uniq l 0 (fun _ _ => ⟨rfl, rfl⟩) q2 r2 t ht]
  have hap : ∀ a, ApSp A on k (szC c k) (alC c k) a := fun a t ht h6 => by
    obtain ⟨h1, h2, -⟩ := me_ap g hon hm ht h6
    exact ⟨h1, h2⟩
  have hbu : ∀ a, BuSp A on k (szC c k) (alC c k) D a (ndS c w n a k z).1 (galS (gatS c w n a k z)) := fun a => by
    obtain ⟨l, q1, q2, q3, q4, -⟩ := hall a z
    exact ⟨l, q1, q2, q3, q4⟩
  refine ⟨D, ⟨fun e he hb => ⟨hap e, hbu e, ?_, ?_⟩, hap (-1), hbu (-1)⟩, fun a z' => ?_⟩
  · obtain ⟨-, l, D', q1, q2, q3, q4⟩ := hB e he hb
    obtain ⟨l2, r1, r2, r3, r4, -⟩ := hall e z
    have el := BusL_uniq q1 r1 (hrefl e)
    subst el
    have hr := th_rg (hon e he)
    have h6 : ¬ 60 + e < 60 := by omega
    rw [(br_cells (c := c) (k := k) h6).1, (de_br hr.1).1]
    show gt c e (20 + k) = rupM ((ndS c w n e k z).1 + A (23 * e + 16)) 16
    rw [q3, r3]
  · obtain ⟨-, l, D', q1, q2, q3, q4⟩ := hB e he hb
    obtain ⟨l2, r1, r2, r3, r4, -⟩ := hall e z
    have el := BusL_uniq q1 r1 (hrefl e)
    subst el
    have hr := th_rg (hon e he)
    have h6 : ¬ 60 + e < 60 := by omega
    rw [(br_cells (c := c) (k := k) h6).2, (de_br hr.1).1]
    show gt c e (22 + k) = max 16 (galS (gatS c w n e k z))
    rw [q4, r4]
  · obtain ⟨l, q1, q2, q3, q4, q5, q6⟩ := hall a z'
    obtain ⟨l2, r1, r2, r3, r4, -⟩ := hall a z
    have el := BusL_uniq q1 r1 (hrefl a)
    subst el
    exact ⟨by rw [q3, r3], by rw [q4, r4], l, q1, q2, q3, q5, q6⟩
end DJ
