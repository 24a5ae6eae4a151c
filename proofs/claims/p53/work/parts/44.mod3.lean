/-! the model's faults and jumps -/
def mPulled (op : Int32) : Int32 := if op = 16 ∨ op = 18 then 1 else if op = 21 then 2 else 0
def mFault (op y : Int32) (X : AI) : Int32 := if ¬ op ≤ 26 then 2 else if (op = 2 ∨ op = 3) ∧ ¬ y < 256 then 1 else if (op = 15 ∨ op = 17) ∧ X 1 4 < 1 then 3 else if ¬ X 1 4 + mPulled op ≤ 256 then 3 else if op = 25 ∧ X 1 12 = 60 then 4 else 0
section M3
variable {kad : Nat → Nat} {N : Nat} {Z : AZ} {e m s : Nat} {I0 I X : AI}
theorem mFault_no {op d y : Int32} (hs : X 1 4 ≤ 256) (h : ¬ mFault op y X = 0) : sDo op d y X = sFail (mFault op y X) X := by
  unfold mFault at h ⊢
  unfold sDo
  by_cases h26 : op ≤ 26
  · rw [if_pos h26]
    rw [if_neg (show ¬ ¬ op ≤ 26 from fun hh => hh h26)] at h ⊢
    by_cases h1 : (op = 2 ∨ op = 3) ∧ ¬ y < 256
    · rw [if_pos h1, if_pos (by rcases h1.1 with rfl | rfl <;> decide), if_pos (by rcases h1.1 with rfl | rfl <;> decide), if_pos (by rcases h1.1 with rfl | rfl <;> decide), if_pos (by rcases h1.1 with rfl | rfl <;> decide)]
      unfold sMove
      rw [if_neg (by rcases h1.1 with rfl | rfl <;> decide), if_neg (by rcases h1.1 with rfl | rfl <;> decide), if_neg h1.2]
    · rw [if_neg h1] at h ⊢
      by_cases h2 : (op = 15 ∨ op = 17) ∧ X 1 4 < 1
      · rw [if_pos h2, if_pos (by rcases h2.1 with rfl | rfl <;> decide), if_neg (by rcases h2.1 with rfl | rfl <;> decide)]
        unfold sStack
        have hn : ¬ (1 : Int32) ≤ X 1 4 := by have := h2.2; grind
        rcases h2.1 with rfl | rfl
        · rw [if_pos rfl, if_neg hn]
        · rw [if_neg (by decide), if_pos rfl, if_neg hn]
      · rw [if_neg h2] at h ⊢
        by_cases h3 : X 1 4 + mPulled op ≤ 256
        · rw [if_neg (show ¬ ¬ X 1 4 + mPulled op ≤ 256 from fun hh => hh h3)] at h ⊢
          by_cases h4 : op = 25 ∧ X 1 12 = 60
          · obtain ⟨rfl, h60⟩ := h4
            rw [if_pos (show (25 : Int32) = 25 ∧ X 1 12 = 60 from ⟨rfl, h60⟩), if_neg (show ¬ (25 : Int32) < 19 from by decide)]
            unfold sCtl sTape
            rw [if_neg (by decide), if_neg (by decide), if_neg (by decide), if_neg (by decide), if_neg (by decide), if_neg (by decide), if_pos rfl, h60, if_neg (by decide), if_neg (by decide)]
          · rw [if_neg h4] at h
            exact absurd rfl h
        · rw [if_pos h3]
          unfold mPulled at h3
          by_cases h16 : op = 16 ∨ op = 18
          · rw [if_pos h16] at h3
            rw [if_pos (by rcases h16 with rfl | rfl <;> decide), if_neg (by rcases h16 with rfl | rfl <;> decide)]
            unfold sStack
            rw [if_neg (by rcases h16 with rfl | rfl <;> decide), if_neg (by rcases h16 with rfl | rfl <;> decide), if_neg h3]
          · rw [if_neg h16] at h3
            by_cases h21 : op = 21
            · subst h21
              rw [if_pos rfl] at h3
              rw [if_neg (by decide)]
              unfold sCtl sRti
              rw [if_neg (by decide), if_neg (by decide), if_pos rfl, if_neg h3]
            · rw [if_neg h21] at h3
              exact absurd hs (by grind)
  · rw [if_neg h26, if_pos h26]
theorem sPullV_up {X : AI} {z : Int32} : sPullV (up2 X 1 3 z) = sPullV X := by
  unfold sPullV sRd
  rw [up2_ne (by decide), show up2 X 1 3 z 6 = X 6 from up2_b (by decide)]
end M3
