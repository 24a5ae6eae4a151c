/-! a machine that is off, and one that is started; the model's rows for them -/
def wake (M D : Nat → Int32) (W : Int32) : AI := fun c k => if c = 1 then (if k = 0 then 1 else if k = 3 then 8 else if k = 4 then 256 else 0) else if c = 6 then M k else if c = 8 then W else if c = 9 then D k else 0
def offm (D : Nat → Int32) (W : Int32) : AI := fun c k => if c = 8 then W else if c = 9 then D k else 0
/-- the words of a machine that sleeps -/
def SL (m : Nat) (I J : AI) : Prop := ((∀ b, ¬ b = m → ¬ b = m + 15 → ¬ b = m + 16 → J b = I b) ∧ (∀ j, ¬ j = 23 → ¬ j = 24 → ¬ (27 ≤ j ∧ j ≤ 35) → ¬ (37 ≤ j ∧ j ≤ 39) → ¬ j = 46 → J m j = I m j)) ∧ ((∀ k, k < 256 → J (m + 15) k = 0) ∧ (∀ k, k < 4 → J (m + 16) k = 0)) ∧ ((∀ j, (j = 23 ∨ j = 24 ∨ (27 ≤ j ∧ j ≤ 35) ∨ (37 ≤ j ∧ j ≤ 39) ∨ j = 46) → J m j = 0))
section MWs
variable {kad : Nat → Nat} {N : Nat} {Z : AZ} {m : Nat} {I : AI}
/-- the words of a machine that is woken, with a memory's words -/
def WK (m : Nat) (M : Nat → Int32) (I J : AI) : Prop := ((∀ b, ¬ b = m → ¬ b = m + 15 → ¬ b = m + 16 → J b = I b) ∧ (∀ j, ¬ j = 23 → ¬ j = 24 → ¬ (27 ≤ j ∧ j ≤ 35) → ¬ (37 ≤ j ∧ j ≤ 39) → ¬ j = 46 → J m j = I m j)) ∧ ((∀ k, k < 256 → J (m + 15) k = M k) ∧ (∀ k, k < 4 → J (m + 16) k = 0)) ∧ ((∀ j, (j = 23 ∨ j = 24 ∨ (27 ≤ j ∧ j ≤ 35) ∨ (37 ≤ j ∧ j ≤ 39) ∨ j = 46) → J m j = if j = 23 then 1 else if j = 27 then 8 else if j = 28 then 256 else 0))
/-- the keys, in the model -/
def KR (q m : Nat) (K I : AI) : Prop := I m 43 = K 10 0 ∧ ∀ k, k < q → I (m + 19) k = K 11 k ∧ I (m + 18) k = K 12 k
theorem mF_set {k : Nat} (h : k < 14) : mF k = 23 ∨ mF k = 24 ∨ (27 ≤ mF k ∧ mF k ≤ 35) ∨ (37 ≤ mF k ∧ mF k ≤ 39) := (mF_rng ⟨k, h⟩).2.2.2.2.2
theorem ML.of {q : Nat} {K X I : AI} (hK : okK q K) (hk : KR q m K I) (hX : ∀ c, 10 ≤ c ∧ c ≤ 12 → X c = K c) (h1 : ∀ k, k < 14 → I m (mF k) = X 1 k) (h2 : ∀ k, k < 4 → I (m + 16) k = X 2 k) (h3 : X 3 0 = 0) (h6 : ∀ k, k < 256 → I (m + 15) k = X 6 k) (h7 : X 1 12 = 0) (h8 : I m 52 = X 8 1) (h9 : ∀ k, k < 256 → I (m + 24) k = X 9 k) (h46 : I m 46 = 0) : ML m I X := by
  have z : nT 0 = 0 := by decide
  refine ⟨fun c k hc hr => ?_, ?_, fun hh => absurd h3 hh⟩
  · unfold mC at hc
    rcases hc with rfl | rfl | rfl | rfl | rfl | rfl | rfl | rfl | rfl | rfl | rfl | rfl
    · exact h1 k hr
    · exact h2 k hr
    · have : k < nT (X 3 0) ∧ k < 3 := hr
      rw [h3, z] at this; omega
    · have : k < 8 * nT (X 3 0) ∧ k < 24 := hr
      rw [h3, z] at this; omega
    · exact h6 k hr
    · have : k < nT (X 1 12) ∧ k < 60 := hr
      rw [h7, z] at this; omega
    · have : k = 1 := hr
      subst this
      exact h8
    · exact h9 k hr
    · have : k = 0 := hr
      subst this
      rw [hX 10 (by decide)]
      exact hk.1
    · have hr : k < nT (X 10 0) ∧ k < 20 := hr
      rw [hX 10 (by decide), hK.1, nT_of (by have := hK.2.1; omega)] at hr
      rw [hX 11 (by decide)]
      exact (hk.2 k hr.1).1
    · have hr : k < nT (X 10 0) ∧ k < 20 := hr
      rw [hX 10 (by decide), hK.1, nT_of (by have := hK.2.1; omega)] at hr
      rw [hX 12 (by decide)]
      exact (hk.2 k hr.1).2
    · have : (0 : Nat) = 1 ∧ k < 256 := hr
      exact absurd this.1 (by decide)
  · unfold sLeft
    rw [if_pos h3]
    exact h46
theorem WK.ml {q : Nat} {K J : AI} {M D : Nat → Int32} {W : Int32} (h : WK m M I J) (hK : okK q K) (hk : KR q m K I) (hD : ∀ k, k < 256 → I (m + 24) k = D k) (hW : I m 52 = W) : ML m J (ov K (wake M D W)) := by
  obtain ⟨⟨s1, s2⟩, ⟨s3, s4⟩, s5⟩ := h
  refine ML.of hK ⟨?_, fun k hk' => ?_⟩ (fun c hc => ov_k hc) (fun k hk' => ?_) (fun k hk' => ?_) ?_ (fun k hk' => ?_) ?_ ?_ (fun k hk' => ?_) ?_
  · rw [s2 43 (by decide) (by decide) (by decide) (by decide) (by decide)]; exact hk.1
  · rw [s1 (m + 19) (by omega) (by omega) (by omega), s1 (m + 18) (by omega) (by omega) (by omega)]
    exact hk.2 k hk'
  · have := mF_set hk'
    rw [s5 (mF k) (by omega), ov_r1]
    have e : ∀ k : Fin 14, (if mF k.1 = 23 then (1 : Int32) else if mF k.1 = 27 then 8 else if mF k.1 = 28 then 256 else 0) = if k.1 = 0 then 1 else if k.1 = 3 then 8 else if k.1 = 4 then 256 else 0 := by decide
    exact e ⟨k, hk'⟩
  · rw [s4 k hk', ov_r2]; rfl
  · rw [ov_r3]; rfl
  · rw [s3 k hk', ov_r6]; rfl
  · rw [ov_r1]; rfl
  · rw [s2 52 (by decide) (by decide) (by decide) (by decide) (by decide), ov_r8]; exact hW
  · rw [s1 (m + 24) (by omega) (by omega) (by omega), ov_r9]; exact hD k hk'
  · rw [s5 46 (by omega)]; rfl
theorem SL.ml {q : Nat} {K J : AI} {D : Nat → Int32} {W : Int32} (h : SL m I J) (hK : okK q K) (hk : KR q m K I) (hD : ∀ k, k < 256 → I (m + 24) k = D k) (hW : I m 52 = W) : ML m J (ov K (offm D W)) := by
  obtain ⟨⟨s1, s2⟩, ⟨s3, s4⟩, s5⟩ := h
  refine ML.of hK ⟨?_, fun k hk' => ?_⟩ (fun c hc => ov_k hc) (fun k hk' => ?_) (fun k hk' => ?_) ?_ (fun k hk' => ?_) ?_ ?_ (fun k hk' => ?_) ?_
  · rw [s2 43 (by decide) (by decide) (by decide) (by decide) (by decide)]; exact hk.1
  · rw [s1 (m + 19) (by omega) (by omega) (by omega), s1 (m + 18) (by omega) (by omega) (by omega)]
    exact hk.2 k hk'
  · have := mF_set hk'
    rw [s5 (mF k) (by omega), ov_r1]
    rfl
  · rw [s4 k hk', ov_r2]; rfl
  · rw [ov_r3]; rfl
  · rw [s3 k hk', ov_r6]; rfl
  · rw [ov_r1]; rfl
  · rw [s2 52 (by decide) (by decide) (by decide) (by decide) (by decide), ov_r8]; exact hW
  · rw [s1 (m + 24) (by omega) (by omega) (by omega), ov_r9]; exact hD k hk'
  · rw [s5 46 (by omega)]
end MWs
