section MI0
variable {kad : Nat → Nat} {g : Nat} {J : AI}
def T0 : AI := fun q _ => if q = 7 then Int32.ofInt (-1) else 0
theorem wd0 : wd 0 := ⟨by decide, by decide⟩
theorem upto0 {n : Nat} : upto n 0 := ⟨0, by decide, Nat.zero_le _⟩
theorem TI_0 : TI 0 T0 := ⟨⟨by decide, by decide⟩, ⟨upto0, upto0⟩, fun k _ => ⟨wd0, wd0⟩, fun t ht => ⟨⟨upto0, upto0⟩, ⟨upto0, upto0, upto0, upto0⟩, ⟨Or.inl rfl, Or.inl rfl, fun _ => rfl, fun _ => rfl⟩, fun k _ => by
  have e1 : T0 (10 + t) k = 0 := if_neg (by omega)
  have e2 : T0 (20 + t) k = 0 := if_neg (by omega)
  rw [e1, e2]
  exact ⟨wd0, wd0⟩⟩⟩
theorem ovK0 {c k : Nat} (h9 : ¬ c = 9) : ov K0 (offm fD 0) c k = 0 := by
  unfold ov offm K0
  split
  · rfl
  · split
    · rfl
    · rfl
theorem ovK9 {k : Nat} : ov K0 (offm fD 0) 9 k = fD k := rfl
/-- new: the class's cells as they were made, the model's disk formatted -/
theorem MI_0 (hc : ∀ b, g ≤ b → b < g + 1997 → J b = xc kad g b) (h1 : ∀ k, k < 256 → J (g + 1997 + 24) k = fD k) (h2 : ∀ b j, b < 43 → ¬ b = 24 → J (g + 1997 + b) j = 0) : MIr g (g + 1997) J J := by
  have hm0 : ∀ j, J (g + 1997) j = 0 := fun j => h2 0 j (by decide) (by decide)
  refine ⟨⟨⟨0, K0, ⟨by decide, fun i hi => absurd hi (by omega)⟩, ⟨?_, fun i hi => absurd hi (by omega)⟩, ⟨hm0 1, fun i hi => absurd hi (by omega)⟩⟩, fun q hq => ?_⟩, ⟨Or.inl ?_, ?_, fun k hk => ?_⟩, Or.inl ⟨0, K0, fD, 0, ⟨by decide, by decide, fun i j h1 h2 => absurd h2 (by omega)⟩, Or.inl fD_ok, ⟨fun c k hcc hr => ?_, ?_⟩, ⟨⟨fun c k hcc hr => ?_, ?_, fun hh => absurd ?_ hh⟩, hm0 40⟩⟩, ⟨0, T0, TI_0, ⟨⟨?_, ?_, ?_⟩, fun k hk => ?_, fun t ht => ?_⟩, ⟨⟨hm0 60, hm0 58, hm0 59⟩, fun k hk => ⟨h2 28 k (by decide) (by decide), h2 29 k (by decide) (by decide)⟩, fun t ht => ?_⟩⟩⟩
  · rw [hc _ (by omega) (by omega)]
    exact xc_asm
  · rw [hc _ (by omega) (by omega)]
    exact xc_busy
  · rw [hc _ (by omega) (by omega)]
    exact xc_own
  · rw [hm0, hc _ (by omega) (by omega)]
    exact xc_own.symm
  · rw [hc _ (by omega) (by omega), xc_img]
    exact ⟨wd0, h2 14 k (by decide) (by decide)⟩
  · have hc17 : 1 ≤ c ∧ c ≤ 16 := by
      match c, hcc, hr with
      | 0, _, hr => exact hr.elim
      | c + 1, _, hr =>
        refine ⟨by omega, ?_⟩
        by_cases hh : c + 1 ≤ 16
        · exact hh
        · exfalso
          match c, hh, hr with
          | 16, _, hr => exact hr.elim
          | 17, _, hr => exact hr.elim
          | 18, _, hr => exact hr.elim
          | n + 19, _, _ => omega
          | 0, hh, _ | 1, hh, _ | 2, hh, _ | 3, hh, _ | 4, hh, _ | 5, hh, _ | 6, hh, _ | 7, hh, _ | 8, hh, _ | 9, hh, _ | 10, hh, _ | 11, hh, _ | 12, hh, _ | 13, hh, _ | 14, hh, _ | 15, hh, _ => omega
    rw [hc _ (by omega) (by omega)]
    by_cases h9 : c = 9
    · subst h9
      rw [xc_disk]
      rfl
    · rw [xc_mz hc17.1 hc17.2 h9, ovK0 h9]
  · rw [hc _ (by omega) (by omega)]
    exact xc_own
  · by_cases h9 : c = 9
    · subst h9
      exact h1 k hr
    · rw [ovK0 h9]
      unfold mC at hcc
      rcases hcc with rfl | rfl | rfl | rfl | rfl | rfl | rfl | rfl | rfl | rfl | rfl | rfl
      · exact hm0 _
      · exact h2 16 _ (by decide) (by decide)
      · exact h2 22 _ (by decide) (by decide)
      · exact h2 23 _ (by decide) (by decide)
      · exact h2 15 _ (by decide) (by decide)
      · exact h2 17 _ (by decide) (by decide)
      · exact hm0 _
      · exact absurd rfl h9
      · exact hm0 _
      · exact h2 19 _ (by decide) (by decide)
      · exact h2 18 _ (by decide) (by decide)
      · exact h2 25 _ (by decide) (by decide)
  · rw [hm0]
    rfl
  · rfl
  · rw [hc _ (by omega) (by omega)]
    exact xc_own
  · rw [hc _ (by omega) (by omega), show g + 178 = g + 178 + 0 from rfl, xc_d (by decide) (show (Lc9 (g + 178))[0]? = some _ from rfl)]
    rfl
  · rw [hc _ (by omega) (by omega), show g + 178 = g + 178 + 0 from rfl, xc_d (by decide) (show (Lc9 (g + 178))[0]? = some _ from rfl)]
    rfl
  · rw [hc _ (by omega) (by omega), hc _ (by omega) (by omega), show g + 179 = g + 178 + 1 from rfl, show g + 180 = g + 178 + 2 from rfl, xc_d (t := 1) (by decide) (show (Lc9 (g + 178))[1]? = some _ from rfl), xc_d (t := 2) (by decide) (show (Lc9 (g + 178))[2]? = some _ from rfl)]
    exact ⟨rfl, rfl⟩
  · have e : ∀ u, u < 3 → J (g + (1982 + 3 * t) + u) = xc kad g (g + (1982 + 3 * t) + u) := fun u hu => hc _ (by omega) (by omega)
    have e0 : J (g + (1982 + 3 * t)) = xc kad g (g + (1982 + 3 * t) + 0) := e 0 (by decide)
    have z0 : ∀ k, xc kad g (g + (1982 + 3 * t) + 0) k = xv (9, (10, updV (updV (updV (dfl 9) 2 (.int (-1))) 3 (.ref (g + (1982 + 3 * t) + 1))) 4 (.ref (g + (1982 + 3 * t) + 2)))) k := fun k => xc_9 ht (by decide) rfl
    refine ⟨⟨?_, ?_, ?_, ?_⟩, ⟨?_, ?_, ?_, ?_⟩, fun k hk => ?_⟩
    · rw [e0, z0]; rfl
    · rw [e0, z0]; rfl
    · rw [e0, z0]; rfl
    · rw [e0, z0]; rfl
    · rw [e0, z0]; rfl
    · rw [e0, z0]; rfl
    · rw [e0, z0]; rfl
    · rw [e0, z0]; rfl
    · have q1 : T0 (10 + t) k = 0 := if_neg (by omega)
      have q2 : T0 (20 + t) k = 0 := if_neg (by omega)
      rw [q1, q2, e 1 (by decide), e 2 (by decide), xc_9 ht (t := 1) (by decide) rfl, xc_9 ht (t := 2) (by decide) rfl]
      exact ⟨rfl, rfl⟩
  · have q1 : ∀ k, T0 (10 + t) k = 0 := fun k => if_neg (by omega)
    have q2 : ∀ k, T0 (20 + t) k = 0 := fun k => if_neg (by omega)
    refine ⟨⟨h2 31 t (by decide) (by decide), h2 33 t (by decide) (by decide), fun hh => absurd hh ?_, h2 39 t (by decide) (by decide)⟩, ⟨h2 34 t (by decide) (by decide), h2 35 t (by decide) (by decide), h2 36 t (by decide) (by decide), h2 37 t (by decide) (by decide)⟩, fun k hk => ?_⟩
    · exact Nat.not_lt_zero t
    · rw [q1, q2]
      exact ⟨h2 30 _ (by decide) (by decide), h2 32 _ (by decide) (by decide)⟩
end MI0
