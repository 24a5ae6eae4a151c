/-! the model against the plain machine -/
def mF (k : Nat) : Nat := match k with
  | 0 => 23 | 1 => 24 | 2 => 38 | 3 => 27 | 4 => 28 | 5 => 29 | 6 => 30 | 7 => 31 | 8 => 32 | 9 => 33 | 10 => 34 | 11 => 35 | 12 => 37 | _ => 39
def mA (m c : Nat) : Nat := match c with
  | 1 => m | 2 => m + 16 | 4 => m + 22 | 5 => m + 23 | 6 => m + 15 | 7 => m + 17 | 8 => m | 9 => m + 24 | 10 => m | 11 => m + 19 | 12 => m + 18 | _ => m + 25
def mK (c k : Nat) : Nat := match c with
  | 1 => mF k | 8 => 52 | 10 => 43 | _ => k
/-- the blocks that the model has as they are -/
def mC (c : Nat) : Prop := c = 1 ∨ c = 2 ∨ c = 4 ∨ c = 5 ∨ c = 6 ∨ c = 7 ∨ c = 8 ∨ c = 9 ∨ c = 10 ∨ c = 11 ∨ c = 12 ∨ c = 14
def n1 (X : AI) : Int32 := if 1 ≤ nT (X 20 1) then X 26 0 else Int32.ofInt (-1)
def n2 (X : AI) : Int32 := if 2 ≤ nT (X 20 1) then X 26 1 else Int32.ofInt (-1)
/-- what a step may change of the model -/
def Tm (m s b j : Nat) : Prop := (b = m ∧ (j = 23 ∨ j = 24 ∨ (27 ≤ j ∧ j ≤ 35) ∨ (37 ≤ j ∧ j ≤ 39) ∨ j = 46 ∨ j = 47 ∨ j = 52)) ∨ (b = m + 15 ∨ b = m + 16 ∨ b = m + 17 ∨ b = m + 22 ∨ b = m + 23 ∨ b = m + 24 ∨ b = m + 25) ∨ ((b = m + 20 ∨ b = m + 21) ∧ j = s)
def MR (e m s : Nat) (I0 I X : AI) : Prop := (∀ c k, mC c → rel e X c k → I (mA m c) (mK c k) = X c k) ∧ (I m 46 = sLeft X ∧ (¬ X 3 0 = 0 → I m 47 = X 3 0)) ∧ (s < 1000 → I (m + 20) s = n1 X ∧ I (m + 21) s = n2 X) ∧ (∀ b j, ¬ Tm m s b j → I b j = I0 b j)
theorem mF_inj : ∀ i j : Fin 14, mF i.1 = mF j.1 → i.1 = j.1 := by decide
theorem mF_rng : ∀ i : Fin 14, ¬ mF i.1 = 46 ∧ ¬ mF i.1 = 47 ∧ ¬ mF i.1 = 52 ∧ ¬ mF i.1 = 43 ∧ ¬ mF i.1 = 42 ∧ (mF i.1 = 23 ∨ mF i.1 = 24 ∨ (27 ≤ mF i.1 ∧ mF i.1 ≤ 35) ∨ (37 ≤ mF i.1 ∧ mF i.1 ≤ 39)) := by decide
/-- two relevant places lie apart -/
theorem mAK {e : Nat} {X : AI} {m c k d j : Nat} (hc : mC c) (hd : mC d) (hk : rel e X c k) (hj : rel e X d j) (h : mA m c = mA m d ∧ mK c k = mK d j) : c = d ∧ k = j := by
  obtain ⟨h1, h2⟩ := h
  unfold mC at hc hd
  rcases hc with rfl | rfl | rfl | rfl | rfl | rfl | rfl | rfl | rfl | rfl | rfl | rfl <;> rcases hd with rfl | rfl | rfl | rfl | rfl | rfl | rfl | rfl | rfl | rfl | rfl | rfl <;> first
    | (exfalso; simp only [mA] at h1; omega)
    | exact ⟨rfl, h2⟩
    | exact ⟨rfl, mF_inj ⟨k, hk⟩ ⟨j, hj⟩ h2⟩
    | exact ⟨rfl, (show k = 1 from hk).trans (show j = 1 from hj).symm⟩
    | exact ⟨rfl, (show k = 0 from hk).trans (show j = 0 from hj).symm⟩
    | exact absurd (show mF k = 52 from h2) (mF_rng ⟨k, hk⟩).2.2.1
    | exact absurd (show mF k = 43 from h2) (mF_rng ⟨k, hk⟩).2.2.2.1
    | exact absurd (show mF j = 52 from h2.symm) (mF_rng ⟨j, hj⟩).2.2.1
    | exact absurd (show mF j = 43 from h2.symm) (mF_rng ⟨j, hj⟩).2.2.2.1
    | exact absurd (show (52 : Nat) = 43 from h2) (by decide)
    | exact absurd (show (43 : Nat) = 52 from h2) (by decide)
theorem mA_ne {m c k s : Nat} (hc : mC c) (hk : c = 1 → k < 14) : ¬ (mA m c = m ∧ (mK c k = 46 ∨ mK c k = 47)) ∧ ¬ (mA m c = m + 20 ∨ mA m c = m + 21) := by
  unfold mC at hc
  rcases hc with rfl | rfl | rfl | rfl | rfl | rfl | rfl | rfl | rfl | rfl | rfl | rfl
  all_goals refine ⟨fun h => ?_, fun h => ?_⟩
  all_goals first
    | (simp only [mA] at h; omega)
    | (have t := mF_rng ⟨k, hk rfl⟩
       rcases h.2 with h2 | h2
       · exact t.1 h2
       · exact t.2.1 h2)
    | (have h2 : (52 : Nat) = 46 ∨ (52 : Nat) = 47 := h.2
       omega)
    | (have h2 : (43 : Nat) = 46 ∨ (43 : Nat) = 47 := h.2
       omega)
theorem mA_T {m c k s : Nat} (hc : mC c) (h10 : ¬ c = 10 ∧ ¬ c = 11 ∧ ¬ c = 12) (hk : c = 1 → k < 14) : Tm m s (mA m c) (mK c k) := by
  unfold mC at hc
  rcases hc with rfl | rfl | rfl | rfl | rfl | rfl | rfl | rfl | rfl | rfl | rfl | rfl
  all_goals first
    | exact absurd rfl h10.1
    | exact absurd rfl h10.2.1
    | exact absurd rfl h10.2.2
    | (refine Or.inr (Or.inl ?_); simp [mA]; done)
    | (have t := (mF_rng ⟨k, hk rfl⟩).2.2.2.2.2
       exact Or.inl ⟨rfl, (show mF k = 23 ∨ mF k = 24 ∨ (27 ≤ mF k ∧ mF k ≤ 35) ∨ (37 ≤ mF k ∧ mF k ≤ 39) ∨ mF k = 46 ∨ mF k = 47 ∨ mF k = 52 from by dsimp only at t; omega)⟩)
    | exact Or.inl ⟨rfl, Or.inr (Or.inr (Or.inr (Or.inr (Or.inr (Or.inr rfl)))))⟩
theorem mC_3 {c : Nat} (hc : mC c) : ¬ 3 = c ∧ ¬ 20 = c ∧ ¬ 26 = c := by
  unfold mC at hc
  omega
section MRs
variable {e m s : Nat} {I0 I X : AI} {c k : Nat} {v : Int32}
theorem MR.rd (H : MR e m s I0 I X) (hc : mC c) (hr : rel e X c k) : I (mA m c) (mK c k) = X c k := H.1 c k hc hr
theorem MR.r1 (H : MR e m s I0 I X) (hk : k < 14) : I m (mF k) = X 1 k := H.1 1 k (Or.inl rfl) hk
/-- a place is written that a step may write -/
theorem MR.up (H : MR e m s I0 I X) (hc : mC c) (h10 : ¬ c = 10 ∧ ¬ c = 11 ∧ ¬ c = 12) (hr : rel e X c k) (hn : nc c k) : MR e m s I0 (up2 I (mA m c) (mK c k) v) (up2 X c k v) := by
  have hk1 : c = 1 → k < 14 := fun h => by subst h; exact hr
  obtain ⟨a1, a2⟩ := mA_ne (m := m) (s := s) hc hk1
  have hx : ∀ d, ¬ d = c → up2 X c k v d = X d := fun d hd => up2_b hd
  have hc3 := mC_3 hc
  obtain ⟨b1, ⟨b2, b3⟩, b4, b5⟩ := H
  refine ⟨fun d j hd hj => ?_, ⟨?_, fun h3 => ?_⟩, fun hs => ?_, fun b j hb => ?_⟩
  · have hj' := (rel_up hn).mp hj
    by_cases h : d = c ∧ j = k
    · obtain ⟨rfl, rfl⟩ := h
      rw [up2_eq, up2_eq]
    · rw [up2_ne h, up2_ne (fun hh => h (mAK hd hc hj' hr hh))]
      exact b1 d j hd hj'
  · rw [up2_ne (fun hh => a1 ⟨hh.1.symm, Or.inl hh.2.symm⟩), b2]
    unfold sLeft
    rw [hx 3 hc3.1]
  · rw [hx 3 hc3.1] at h3 ⊢
    rw [up2_ne (fun hh => a1 ⟨hh.1.symm, Or.inr hh.2.symm⟩)]
    exact b3 h3
  · have q1 : n1 (up2 X c k v) = n1 X := by unfold n1; rw [hx 20 hc3.2.1, hx 26 hc3.2.2]
    have q2 : n2 (up2 X c k v) = n2 X := by unfold n2; rw [hx 20 hc3.2.1, hx 26 hc3.2.2]
    rw [q1, q2, up2_ne (fun hh => a2 (Or.inl hh.1.symm)), up2_ne (fun hh => a2 (Or.inr hh.1.symm))]
    exact b4 hs
  · rw [up2_ne (fun hh => hb (by rw [hh.1, hh.2]; exact mA_T hc h10 hk1))]
    exact b5 b j hb
theorem MR.u1 (H : MR e m s I0 I X) (hk : k < 14) (hn : nc 1 k := by decide) : MR e m s I0 (up2 I m (mF k) v) (up2 X 1 k v) := H.up (c := 1) (Or.inl rfl) (by decide) hk hn
theorem MR.u2 (H : MR e m s I0 I X) (hk : k < 4) : MR e m s I0 (up2 I (m + 16) k v) (up2 X 2 k v) := H.up (c := 2) (k := k) (Or.inr (Or.inl rfl)) (by decide) hk (nc2 (by decide))
theorem MR.u6 (H : MR e m s I0 I X) (hk : k < 256) : MR e m s I0 (up2 I (m + 15) k v) (up2 X 6 k v) := H.up (c := 6) (k := k) (by unfold mC; omega) (by decide) hk (nc2 (by decide))
theorem MR.u9 (H : MR e m s I0 I X) (hk : k < 256) : MR e m s I0 (up2 I (m + 24) k v) (up2 X 9 k v) := H.up (c := 9) (k := k) (by unfold mC; omega) (by decide) hk (nc2 (by decide))
theorem MR.r2 (H : MR e m s I0 I X) (hk : k < 4) : I (m + 16) k = X 2 k := H.1 2 k (by unfold mC; omega) hk
theorem MR.r6 (H : MR e m s I0 I X) (hk : k < 256) : I (m + 15) k = X 6 k := H.1 6 k (by unfold mC; omega) hk
theorem MR.r9 (H : MR e m s I0 I X) (hk : k < 256) : I (m + 24) k = X 9 k := H.1 9 k (by unfold mC; omega) hk
end MRs
