/-! the model goes through a line -/
section AQ
variable {kad : Nat → Nat} {N : Nat} {Z : AZ} {m n p i e use : Nat} {st : List Nat} {C : PN} {L J : AI} {r : Nat × PN}
theorem lbm1 {s : Nat} (H : asM m p C J) (hs : s < 1220) (hb : C 4 s ≤ 249 ∧ C 11 s ≤ 1) : J (m + 3) s = Int32.ofInt (-1) ↔ C 4 s = 0 := by
  obtain ⟨h1, h2⟩ := H.2.2.2.1 s hs
  constructor
  · intro h
    by_cases hz : C 4 s = 0
    · exact hz
    · rw [h2 hz] at h
      exact absurd h (m1_ne (by omega))
  · exact h1
theorem M15 (H : asM m p C J) (hp : C 0 0 ≤ 1) : ixA 2 (J m 15) = some (C 0 0) := by
  rw [H.1.1]
  exact ixA_of (by omega)
end AQ
