/-! the model goes through a line the second time -/
section AS
variable {kad : Nat → Nat} {N : Nat} {Z : AZ} {m n p i e use : Nat} {st : List Nat} {C : PN} {L J : AI} {r : Nat × PN}
theorem ml3 (HM : MSr n m L J) (hi : i < n) (h : L 1 i = 2 ∨ L 1 i = 3 ∨ L 1 i = 5 ∨ L 1 i = 8) : J (m + 2) (5 * i) = L 3 i ∧ J (m + 2) (5 * i + 1) = L 4 i ∧ ((L 1 i = 2 ∨ L 1 i = 5) → J (m + 2) (5 * i + 2) = L 2 i) := by
  obtain ⟨-, -, l3, l4, -⟩ := HM.2 i hi
  exact ⟨(l3 h).1, (l3 h).2, l4⟩
theorem e100m (a b : Nat) : (100 : Int32) * Int32.ofNat a + Int32.ofNat b = Int32.ofNat (100 * a + b) := by
  rw [show (100 : Int32) = Int32.ofNat 100 from rfl, eM, eA]
end AS
