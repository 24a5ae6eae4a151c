/-! submit: what was there before is there again -/
def frS (m : Nat) (I J : AI) : Prop := ∀ b j, ¬ TX m b j → ¬ (m + 38 ≤ b ∧ b ≤ m + 42) → J b j = I b j
section S2
variable {kad : Nat → Nat} {N : Nat} {Z : AZ} {g m n t q s kc : Nat} {I J T X K B : AI} {v w : Int32} {M D M0 D0 : Nat → Int32} {W W0 : Int32}
theorem nTX28 {b j : Nat} (hb : (m + 28 ≤ b) ∨ b = m + 14 ∨ b = m + 13 ∨ (b = m ∧ (j = 58 ∨ j = 59 ∨ j = 60 ∨ j = 22))) : ¬ TX m b j := fun h => by
  rcases h with h | h | h
  · rcases h with h | h
    · have := h.1; have := h.2; omega
    · rcases h with h | h | h | h | h | h | h | h | h <;> omega
  · have := h.1; have := h.2; omega
  · rcases h with h | h | h | h <;> omega
theorem MT.fr {J' : AI} (H : MT m T J) (h : ∀ b j, (m + 28 ≤ b ∧ b ≤ m + 39) ∨ (b = m ∧ (j = 58 ∨ j = 59 ∨ j = 60)) → J' b j = J b j) : MT m T J' := by
  refine ⟨⟨?_, ?_, ?_⟩, fun k hk => ⟨?_, ?_⟩, fun t ht => (H.2.2 t ht).cong (fun b j b1 b2 => h b j (Or.inl ⟨b1, b2⟩))⟩
  · rw [h m 60 (by omega)]; exact H.1.1
  · rw [h m 58 (by omega)]; exact H.1.2.1
  · rw [h m 59 (by omega)]; exact H.1.2.2
  · rw [h _ k (by omega)]; exact (H.2.1 k hk).1
  · rw [h _ k (by omega)]; exact (H.2.1 k hk).2
/-- what comes behind the tests: keys, disk and count back; a machine that was on makes its steps anew -/
def bkA (m : Nat) (Y : AI) : AI := st2 Y (m + 18) (m + 19) 0 20 (Y (m + 41)) (Y (m + 42))
/-- the cells where all is put back -/
def bkI (m : Nat) (I R : AI) : Prop := (∀ k, k < 20 → R (m + 18) k = I (m + 18) k ∧ R (m + 19) k = I (m + 19) k) ∧ (∀ k, k < 256 → R (m + 24) k = I (m + 24) k) ∧ (R m 43 = I m 43 ∧ R m 52 = I m 52) ∧ (∀ b j, ¬ TW m b j → ¬ (b = m ∧ j = 43) → ¬ b = m + 18 → ¬ b = m + 19 → ¬ (m + 38 ≤ b ∧ b ≤ m + 42) → R b j = I b j)
theorem K180_0 (h2 : I g 2 = 0) : f180 kad N Z g I = some (rx [1] 1 0, I) := by
  unfold f180 f140
  rw [if_neg (fun h => h h2), Option.bind_some]
  rfl
theorem bkI.kr {R : AI} (h : bkI m I R) (hK : okK q K) (hk : KR q m K I) : KR q m K R := by
  have hq := hK.2.1
  exact ⟨by rw [h.2.2.1.1]; exact hk.1, fun k hk' => by rw [(h.1 k (by omega)).1, (h.1 k (by omega)).2]; exact hk.2 k hk'⟩
end S2
