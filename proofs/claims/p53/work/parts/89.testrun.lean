/-! the steps of a test, in both at once -/
def frU (m : Nat) (I J : AI) : Prop := ∀ b j, ¬ TW m b j → ¬ (b = m ∧ j = 43) → ¬ b = m + 18 → ¬ b = m + 19 → J b j = I b j
def frA (a κ τ : Nat) (I J : AI) : Prop := ∀ b, ¬ (a ≤ b ∧ b < a + 17) → ¬ (κ ≤ b ∧ b < κ + 9) → ¬ b = τ → J b = I b
def tDone (a κ τ t : Nat) (T I : AI) (v : Int32) (J : AI) : Prop := (J τ 2 = v ∧ J τ 9 = (if T 8 t = 0 then (if v = 0 then 1 else 0) else 1)) ∧ (∀ j, ¬ j = 2 → ¬ j = 9 → J τ j = I τ j) ∧ frA a κ τ I J
section TR
variable {kad : Nat → Nat} {N : Nat} {Z : AZ} {a b m n t τ κ bu : Nat} {I J T X : AI} {v w : Int32} {M : Nat → Int32}
theorem CTt.cong (h : CTt τ t T I) (hJ : ∀ b, τ ≤ b → b < τ + 3 → J b = I b) : CTt τ t T J := by
  unfold CTt at h ⊢
  rw [hJ τ (by omega) (by omega), hJ (τ + 1) (by omega) (by omega), hJ (τ + 2) (by omega) (by omega)]
  exact h
theorem MTt.cong (h : MTt m t T I) (hJ : ∀ b j, m + 28 ≤ b → b ≤ m + 39 → J b j = I b j) : MTt m t T J := by
  have e : ∀ b, m + 28 ≤ b → b ≤ m + 39 → J b = I b := fun b b1 b2 => funext fun j => hJ b j b1 b2
  unfold MTt at h ⊢
  rw [e (m + 31) (by omega) (by omega), e (m + 33) (by omega) (by omega), e (m + 38) (by omega) (by omega), e (m + 39) (by omega) (by omega), e (m + 34) (by omega) (by omega), e (m + 35) (by omega) (by omega), e (m + 36) (by omega) (by omega), e (m + 37) (by omega) (by omega), e (m + 30) (by omega) (by omega), e (m + 32) (by omega) (by omega)]
  exact h
theorem nTW28 {b j : Nat} (hb : m + 26 ≤ b ∨ b = m + 14) : ¬ TW m b j := fun h => by
  rcases h with h | h
  · have := h.1; omega
  · rcases h with h | h | h | h | h | h | h | h | h <;> omega
theorem frU.rfl' : frU m I I := fun _ _ _ _ _ _ => rfl
theorem frU.trans {Q : AI} (h : frU m I J) (h2 : frU m J Q) : frU m I Q := fun b j b1 b2 b3 b4 => (h2 b j b1 b2 b3 b4).trans (h b j b1 b2 b3 b4)
theorem frU.mt (h : frU m I J) (hT : MTt m t T I) : MTt m t T J := hT.cong (fun b j b1 b2 => h b j (nTW28 (Or.inl (by omega))) (by omega) (by omega) (by omega))
theorem frU.row (h : frU m I J) {k : Nat} : J (m + 14) k = I (m + 14) k := h _ _ (nTW28 (Or.inr rfl)) (by omega) (by omega) (by omega)
/-- the judge's word is written down -/
theorem K127 (hN : 2000 ≤ N) (H : RM a I X) (hT : CTt τ t T I) (h8 : T 8 t = 0 ∨ T 8 t = 1) (hz : Z.1 (τ + 2) = some (100, 6)) (h2 : upto 6 (T 2 t)) (hx : ∃ tp, X 1 12 = Int32.ofNat tp ∧ tp ≤ 60) (hw : X 9 0 = 0 → LW (X 9)) : ∃ v, jdg T t X v ∧ Ok (f120_b127 kad N Z τ a κ I) (fun _ J => tDone a κ τ t T I v J) := by
  obtain ⟨v, v1, v2⟩ := K121 (kad := kad) (Z := Z) hN H hT hz h2 hx hw
  refine ⟨v, v2, ?_⟩
  unfold f120_b127 f120_b151 f120_b156
  rw [v1, Option.bind_some]
  refine Ok.w ?_
  have e9 : up2 I τ 2 v τ 9 = T 8 t := by rw [up2_ne (by omega)]; exact hT.1.2.2.2
  have fin : ∀ u : Int32, (u = 0 ∨ u = 1) → u = (if T 8 t = 0 then (if v = 0 then 1 else 0) else 1) → Ok ((wB (up2 I τ 2 v) τ 9 u).bind fun I156_1 => some ((), I156_1)) (fun _ J => tDone a κ τ t T I v J) := fun u hu he => by
    unfold wB
    rw [if_pos hu, Option.bind_some]
    refine Ok.ret ⟨⟨?_, ?_⟩, fun j j2 j9 => ?_, fun b b1 b2 b3 => ?_⟩
    · rw [up2_ne (by omega), up2_eq]
    · rw [up2_eq, he]
    · rw [up2_ne (fun hh => j9 hh.2), up2_ne (fun hh => j2 hh.2)]
    · rw [up2_b b3, up2_b b3]
  by_cases h : T 8 t = 0
  · rw [if_neg (show ¬ ¬ up2 I τ 2 v τ 9 = 0 from fun hh => hh (e9.trans h))]
    by_cases hv : v = 0
    · rw [if_neg (show ¬ ¬ up2 I τ 2 v τ 2 = 0 from fun hh => hh (up2_eq.trans hv))]
      exact fin 1 (Or.inr rfl) (by rw [if_pos h, if_pos hv])
    · rw [if_pos (show ¬ up2 I τ 2 v τ 2 = 0 from fun hh => hv (up2_eq.symm.trans hh))]
      exact fin 0 (Or.inl rfl) (by rw [if_pos h, if_neg hv])
  · rw [if_pos (show ¬ up2 I τ 2 v τ 9 = 0 from fun hh => h (e9.symm.trans hh))]
    exact fin 1 (Or.inr rfl) (by rw [if_neg h])
end TR
