/-! the model's other instructions -/
section M5
variable {kad : Nat → Nat} {N : Nat} {Z : AZ} {e m s : Nat} {I0 I X : AI}
theorem MR.tp (H : MR e m s I0 I X) {t : Nat} (ht : X 1 12 = Int32.ofNat t) (ht2 : t < 60) {y : Int32} : MR e m s I0 (up2 (up2 I (m + 17) t y) m 37 (Int32.ofNat (t + 1))) (up2 (up2 X 7 t y) 1 12 (Int32.ofNat (t + 1))) := by
  obtain ⟨b1, ⟨b2, b3⟩, b4, b5⟩ := H
  have x3 : up2 (up2 X 7 t y) 1 12 (Int32.ofNat (t + 1)) 3 = X 3 := by rw [up2_b (by decide), up2_b (by decide)]
  have x20 : up2 (up2 X 7 t y) 1 12 (Int32.ofNat (t + 1)) 20 = X 20 := by rw [up2_b (by decide), up2_b (by decide)]
  have x26 : up2 (up2 X 7 t y) 1 12 (Int32.ofNat (t + 1)) 26 = X 26 := by rw [up2_b (by decide), up2_b (by decide)]
  have x10 : up2 (up2 X 7 t y) 1 12 (Int32.ofNat (t + 1)) 10 = X 10 := by rw [up2_b (by decide), up2_b (by decide)]
  refine ⟨fun d j hd hj => ?_, ⟨?_, fun h3 => ?_⟩, fun hs => ?_, fun b j hb => ?_⟩
  · by_cases h7 : d = 7
    · subst h7
      have hj : j < nT (up2 (up2 X 7 t y) 1 12 (Int32.ofNat (t + 1)) 1 12) ∧ j < 60 := hj
      rw [up2_eq, nT_of (by omega)] at hj
      show up2 (up2 I (m + 17) t y) m 37 (Int32.ofNat (t + 1)) (m + 17) j = _
      rw [up2_b (by omega), congrFun (up2_b (show ¬ 7 = 1 by decide)) j]
      by_cases hjt : j = t
      · subst hjt
        rw [up2_eq, up2_eq]
      · rw [up2_ne (fun h => hjt h.2), up2_ne (fun h => hjt h.2)]
        exact b1 7 j hd (by show j < nT (X 1 12) ∧ j < 60; rw [ht, nT_of (by omega)]; omega)
    by_cases h112 : d = 1 ∧ j = 12
    · obtain ⟨rfl, rfl⟩ := h112
      show up2 (up2 I (m + 17) t y) m 37 (Int32.ofNat (t + 1)) m 37 = _
      rw [up2_eq, up2_eq]
    · have hjx : rel e X d j := by
        unfold mC at hd
        rcases hd with rfl | rfl | rfl | rfl | rfl | rfl | rfl | rfl | rfl | rfl | rfl | rfl
        · exact (show j < 14 from hj)
        · exact (show j < 4 from hj)
        · exact (show j < nT (X 3 0) ∧ j < 3 from x3 ▸ hj)
        · exact (show j < 8 * nT (X 3 0) ∧ j < 24 from x3 ▸ hj)
        · exact (show j < 256 from hj)
        · exact absurd rfl h7
        · exact (show j = 1 from hj)
        · exact (show j < 256 from hj)
        · exact (show j = 0 from hj)
        · exact (show j < nT (X 10 0) ∧ j < 20 from x10 ▸ hj)
        · exact (show j < nT (X 10 0) ∧ j < 20 from x10 ▸ hj)
        · exact (show e = 1 ∧ j < 256 from hj)
      have n37 : ¬ (mA m d = m ∧ mK d j = 37) := fun h => by
        have := mAK (e := e) (X := X) (m := m) (c := d) (k := j) (d := 1) (j := 12) hd (Or.inl rfl) hjx (show 12 < 14 by decide) ⟨h.1, h.2⟩
        exact h112 this
      have n17 : ¬ mA m d = m + 17 := fun h => by
        unfold mC at hd
        rcases hd with rfl | rfl | rfl | rfl | rfl | rfl | rfl | rfl | rfl | rfl | rfl | rfl <;> first
          | exact absurd rfl h7
          | (simp only [mA] at h; omega)
      rw [up2_ne n37, up2_b n17, up2_ne h112, up2_b h7]
      exact b1 d j hd hjx
  · rw [up2_ne (by omega), up2_b (by omega), b2]
    unfold sLeft
    rw [x3]
  · rw [x3] at h3 ⊢
    rw [up2_ne (by omega), up2_b (by omega)]
    exact b3 h3
  · have q1 : n1 (up2 (up2 X 7 t y) 1 12 (Int32.ofNat (t + 1))) = n1 X := by unfold n1; rw [x20, x26]
    have q2 : n2 (up2 (up2 X 7 t y) 1 12 (Int32.ofNat (t + 1))) = n2 X := by unfold n2; rw [x20, x26]
    rw [q1, q2, up2_b (by omega), up2_b (by omega), up2_b (by omega), up2_b (by omega)]
    exact b4 hs
  · have hb1 : ¬ (b = m ∧ j = 37) := fun h => hb (Or.inl ⟨h.1, by omega⟩)
    have hb2 : ¬ b = m + 17 := fun h => hb (Or.inr (Or.inl (by omega)))
    rw [up2_ne hb1, up2_b hb2]
    exact b5 b j hb
end M5
