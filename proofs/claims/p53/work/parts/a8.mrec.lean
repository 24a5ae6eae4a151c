/-! the model goes through the lines of a use -/
/-- how many turns of the loop -/
def cst (C D : PN) : Nat := (D 0 1 - C 0 1) + (D 0 2 - C 0 2)
section MR4
variable {kad : Nat → Nat} {N : Nat} {Z : AZ} {m n p i e use : Nat} {st : List Nat} {C D E : PN} {L J I : AI} {r : Nat × PN} {ln : Nat → Nat → List Nat → PN → Option (Nat × PN)} {rc : Nat → Nat → Nat → List Nat → PN → Option (Nat × PN)}
/-- a use is taken from the stack -/
theorem asT.pop (T : asT m p i e use st C I) (hG : asG m (st.length + 1) I J) (hM : asM m p D J) (h5 : D 5 use = C 5 use ∧ D 6 use = C 6 use) : asT m p i e use st D (up2 J m 14 (Int32.ofNat st.length)) := by
  obtain ⟨-, ⟨b1, b2, b3⟩, c1, d1⟩ := T
  have hc : ∀ b j, m + 7 ≤ b → b ≤ m + 12 → j ≤ st.length → up2 J m 14 (Int32.ofNat st.length) b j = I b j := fun b j h1 h2 h3 => by
    rw [up2_b (by omega)]
    exact hG b j (by omega) (by omega) (by omega)
  refine ⟨hM.o0 (Or.inl rfl), ⟨up2_eq, ?_, ?_⟩, ?_, fun j hj => ?_⟩
  · rw [hc _ _ (by omega) (by omega) (Nat.le_refl _)]; exact b2
  · rw [hc _ _ (by omega) (by omega) (Nat.le_refl _)]; exact b3
  · rw [hc _ _ (by omega) (by omega) (Nat.le_refl _), hc _ _ (by omega) (by omega) (Nat.le_refl _), hc _ _ (by omega) (by omega) (Nat.le_refl _), h5.1, h5.2]
    exact c1
  · rw [hc _ _ (by omega) (by omega) (by omega)]
    exact d1 j hj
theorem asT.next (T : asT m p i e use st C J) : asT m p (i + 1) e use st C (up2 J (m + 7) st.length (Int32.ofNat (i + 1))) ∧ asG m st.length J (up2 J (m + 7) st.length (Int32.ofNat (i + 1))) := by
  obtain ⟨a1, ⟨b1, b2, b3⟩, c1, d1⟩ := T
  refine ⟨⟨a1.ob (by omega), ⟨?_, up2_eq, ?_⟩, ?_, ?_⟩, asG.ups (by omega) (Nat.le_refl _)⟩
  · rw [up2_b (by omega)]; exact b1
  · rw [up2_b (by omega)]; exact b3
  · rw [up2_b (by omega), up2_b (by omega), up2_b (by omega)]; exact c1
  · unfold asSK
    rw [up2_b (by omega)]; exact d1
end MR4
