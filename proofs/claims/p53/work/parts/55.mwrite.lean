/-! the model makes the next write of a call; it makes a step -/
theorem sSum_n {f : Nat → Int32} {B : Nat} (h : ∀ k, k < B → wd (f k)) : ∀ (m i a : Nat), i + m ≤ B → ∃ a', sSum f m i (Int32.ofNat a) = Int32.ofNat a' ∧ a' ≤ a + 65535 * m := by
  intro m
  induction m with
  | zero => intro i a _; exact ⟨a, rfl, by omega⟩
  | succ m ih =>
    intro i a hi
    have hf := h i (by omega)
    have l := (wd_n hf).2.1
    unfold sSum
    rw [← of_nT (wd_nn hf), eA]
    obtain ⟨a', e1, e2⟩ := ih (i + 1) (a + nT (f i)) (by omega)
    exact ⟨a', e1, by omega⟩
theorem sSum_cong {f g : Nat → Int32} {B : Nat} (h : ∀ k, k < B → f k = g k) : ∀ (m i : Nat) (acc : Int32), i + m ≤ B → sSum f m i acc = sSum g m i acc := by
  intro m
  induction m with
  | zero => intro i acc _; rfl
  | succ m ih =>
    intro i acc hi
    unfold sSum
    rw [h i (by omega)]
    exact ih (i + 1) _ (by omega)
/-- what stands behind a write -/
theorem MR.wb {m s : Nat} {I0 I X J Y : AI} (H : MR 0 m s I0 I X) (h9 : ∀ k, k < 256 → J (m + 24) k = Y 9 k) (h8 : J m 52 = Y 8 1) (h46 : J m 46 = sLeft Y) (h47 : ¬ Y 3 0 = 0 → J m 47 = Y 3 0) (h2 : ∀ k, k < 4 → J (m + 16) k = Y 2 k) (h27 : J m 27 = Y 1 3) (hJ : ∀ b, ¬ b = m → ¬ b = m + 16 → ¬ b = m + 24 → J b = I b) (hm : ∀ j, ¬ j = 27 → ¬ j = 46 → ¬ j = 52 → J m j = I m j) (hY : ∀ c, ¬ c = 1 → ¬ c = 2 → ¬ c = 3 → ¬ c = 8 → ¬ c = 9 → ¬ c = 20 → ¬ c = 28 → Y c = X c) (hY1 : ∀ k, ¬ k = 3 → Y 1 k = X 1 k) (hY20 : Y 20 1 = X 20 1) (h30 : Y 3 0 = X 3 0 ∨ Y 3 0 = 0) : MR 0 m s I0 J Y := by
  obtain ⟨b1, ⟨b2, b3⟩, b4, b5⟩ := H
  refine ⟨fun d j hd hj => ?_, ⟨h46, h47⟩, fun hs => ?_, fun b j hb => ?_⟩
  · have z : nT (Y 3 0) ≤ nT (X 3 0) := by
      rcases h30 with h | h
      · rw [h]; exact Nat.le_refl _
      · rw [h, show nT (0 : Int32) = 0 from by decide]
        exact Nat.zero_le _
    have hd2 := hd
    unfold mC at hd2
    have e10 : Y 10 = X 10 := hY 10 (by decide) (by decide) (by decide) (by decide) (by decide) (by decide) (by decide)
    have e112 : Y 1 12 = X 1 12 := hY1 12 (by decide)
    rcases hd2 with rfl | rfl | rfl | rfl | rfl | rfl | rfl | rfl | rfl | rfl | rfl | rfl
    · have hj : j < 14 := hj
      show J m (mF j) = Y 1 j
      by_cases e : j = 3
      · subst e; exact h27
      · rw [hY1 j e]
        have t := mF_rng ⟨j, hj⟩
        have t2 : ¬ mF j = 27 := fun hh => e (mF_inj ⟨j, hj⟩ ⟨3, by decide⟩ (show mF j = mF 3 from hh))
        rw [hm _ t2 t.1 t.2.2.1]
        exact b1 1 j hd hj
    · exact h2 j hj
    · have hj : j < nT (Y 3 0) ∧ j < 3 := hj
      show J (m + 22) j = Y 4 j
      rw [hJ _ (by omega) (by omega) (by omega), hY 4 (by decide) (by decide) (by decide) (by decide) (by decide) (by decide) (by decide)]
      exact b1 4 j hd (show j < nT (X 3 0) ∧ j < 3 by omega)
    · have hj : j < 8 * nT (Y 3 0) ∧ j < 24 := hj
      show J (m + 23) j = Y 5 j
      rw [hJ _ (by omega) (by omega) (by omega), hY 5 (by decide) (by decide) (by decide) (by decide) (by decide) (by decide) (by decide)]
      exact b1 5 j hd (show j < 8 * nT (X 3 0) ∧ j < 24 by omega)
    · show J (m + 15) j = Y 6 j
      rw [hJ _ (by omega) (by omega) (by omega), hY 6 (by decide) (by decide) (by decide) (by decide) (by decide) (by decide) (by decide)]
      have hj : j < 256 := hj
      exact b1 6 j hd hj
    · have hj : j < nT (Y 1 12) ∧ j < 60 := hj
      rw [e112] at hj
      show J (m + 17) j = Y 7 j
      rw [hJ _ (by omega) (by omega) (by omega), hY 7 (by decide) (by decide) (by decide) (by decide) (by decide) (by decide) (by decide)]
      exact b1 7 j hd hj
    · obtain rfl : j = 1 := hj
      exact h8
    · exact h9 j hj
    · have hj : j = 0 := hj
      show J m 43 = Y 10 j
      rw [hm 43 (by decide) (by decide) (by decide), e10]
      exact b1 10 j hd hj
    · have hj : j < nT (Y 10 0) ∧ j < 20 := hj
      rw [e10] at hj
      show J (m + 19) j = Y 11 j
      rw [hJ _ (by omega) (by omega) (by omega), hY 11 (by decide) (by decide) (by decide) (by decide) (by decide) (by decide) (by decide)]
      exact b1 11 j hd hj
    · have hj : j < nT (Y 10 0) ∧ j < 20 := hj
      rw [e10] at hj
      show J (m + 18) j = Y 12 j
      rw [hJ _ (by omega) (by omega) (by omega), hY 12 (by decide) (by decide) (by decide) (by decide) (by decide) (by decide) (by decide)]
      exact b1 12 j hd hj
    · exact absurd hj.1 (by decide)
  · unfold n1 n2
    rw [hY20, hY 26 (by decide) (by decide) (by decide) (by decide) (by decide) (by decide) (by decide), hJ _ (by omega) (by omega) (by omega), hJ _ (by omega) (by omega) (by omega)]
    exact b4 hs
  · have h16 : ¬ (b = m + 16 ∨ b = m + 24) := fun h => hb (Or.inr (Or.inl (by omega)))
    by_cases e : b = m
    · subst e
      rw [hm j (fun h => hb (Or.inl ⟨rfl, by omega⟩)) (fun h => hb (Or.inl ⟨rfl, by omega⟩)) (fun h => hb (Or.inl ⟨rfl, by omega⟩))]
      exact b5 b j hb
    · rw [hJ b e (fun h => h16 (Or.inl h)) (fun h => h16 (Or.inr h))]
      exact b5 b j hb
section MWB
variable {kad : Nat → Nat} {N : Nat} {Z : AZ} {m s : Nat} {I0 I X : AI}
end MWB
