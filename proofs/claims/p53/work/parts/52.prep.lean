/-! what a call will write, in the class's row and in the model's -/
theorem cp_s {I : AI} {a0 a1 s d n : Nat} : up2 (cpI I a1 a0 s d n) a0 (d + n) (I a1 (s + n)) = cpI I a1 a0 s d (n + 1) := by
  funext c k
  unfold up2 cpI
  by_cases hc : c = a0 ∧ k = d + n
  · rw [if_pos hc, if_pos (by omega), hc.2]
    congr 1
    omega
  · rw [if_neg hc]
    by_cases h2 : c = a0 ∧ d ≤ k ∧ k < d + n
    · rw [if_pos h2, if_pos (by omega)]
    · rw [if_neg h2, if_neg (by omega)]
theorem cp_0 {I : AI} {a0 a1 s d : Nat} : cpI I a1 a0 s d 0 = I := by
  funext c k
  unfold cpI
  rw [if_neg (by omega)]
theorem sAdd_of {Y : AI} {n b : Nat} (h : Y 3 0 = Int32.ofNat n) (hn : n < 3) : sAdd b Y = up2 (cpI (up2 Y 4 n (Int32.ofNat b)) 14 5 (8 * b) (8 * n) 8) 3 0 (Int32.ofNat (n + 1)) := by
  unfold sAdd
  rw [h, nT_of (by omega), if_neg (by omega)]
theorem sAdds_none : ∀ (n b : Nat) (Y : AI), b + n = 32 → (∀ c, c < 32 → Y 15 c = 0) → sAdds n b Y = Y := by
  intro n
  induction n with
  | zero => intro b Y _ _; rfl
  | succ n ih =>
    intro b Y hb h
    unfold sAdds
    rw [if_pos (h b (by omega))]
    exact ih (b + 1) Y (by omega) h
/-- the class's row: the blocks by rising numbers -/
def NB (b n : Nat) (W : Nat → Int32) (S : Nat → Bool) (Y : AI) : Prop := (∀ k, k < n → Y 4 k = Int32.ofNat (nT (Y 4 k)) ∧ nT (Y 4 k) < b ∧ S (nT (Y 4 k)) = true) ∧ (∀ j k, j < k → k < n → nT (Y 4 j) < nT (Y 4 k)) ∧ (∀ k p, k < n → p < 8 → Y 5 (8 * k + p) = W (8 * nT (Y 4 k) + p)) ∧ (∀ c, c < b → S c = true → ∃ k, k < n ∧ nT (Y 4 k) = c)
theorem NB.add {b n : Nat} {W : Nat → Int32} {S : Nat → Bool} {Y : AI} (h : NB b n W S Y) (hn : Y 3 0 = Int32.ofNat n) (hn3 : n < 3) (hb : b < 32) (hS : S b = true) (hW : ∀ k, k < 256 → Y 14 k = W k) : NB (b + 1) (n + 1) W S (sAdd b Y) := by
  rw [sAdd_of hn hn3]
  obtain ⟨h1, h2, h3, h4⟩ := h
  have f4 : ∀ k, up2 (cpI (up2 Y 4 n (Int32.ofNat b)) 14 5 (8 * b) (8 * n) 8) 3 0 (Int32.ofNat (n + 1)) 4 k = (if k = n then Int32.ofNat b else Y 4 k) := fun k => by
    rw [up2_b (by decide), cpI_b (by decide)]
    by_cases h : k = n
    · subst h; rw [up2_eq, if_pos rfl]
    · rw [up2_ne (fun hh => h hh.2), if_neg h]
  have f5 : ∀ k, up2 (cpI (up2 Y 4 n (Int32.ofNat b)) 14 5 (8 * b) (8 * n) 8) 3 0 (Int32.ofNat (n + 1)) 5 k = (if 8 * n ≤ k ∧ k < 8 * n + 8 then Y 14 (8 * b + (k - 8 * n)) else Y 5 k) := fun k => by
    rw [up2_b (by decide)]
    by_cases h : 8 * n ≤ k ∧ k < 8 * n + 8
    · rw [cpI_at h, if_pos h, up2_b (by decide)]
    · rw [cpI_out h, if_neg h, up2_b (by decide)]
  have eb : nT (Int32.ofNat b) = b := nT_of (by omega)
  refine ⟨fun k hk => ?_, fun j k hj hk => ?_, fun k p hk hp => ?_, fun c hc hs => ?_⟩
  · rw [f4]
    by_cases h : k = n
    · rw [if_pos h, eb]; exact ⟨rfl, by omega, hS⟩
    · rw [if_neg h]
      obtain ⟨a1, a2, a3⟩ := h1 k (by omega)
      exact ⟨a1, by omega, a3⟩
  · rw [f4, f4, if_neg (show ¬ j = n by omega)]
    by_cases h : k = n
    · rw [if_pos h, eb]; exact (h1 j (by omega)).2.1
    · rw [if_neg h]; exact h2 j k hj (by omega)
  · rw [f4, f5]
    by_cases h : k = n
    · rw [if_pos h, if_pos (by omega), eb, hW _ (by omega)]
      congr 1
      omega
    · rw [if_neg h, if_neg (by omega)]
      exact h3 k p (by omega) hp
  · by_cases h : c = b
    · exact ⟨n, by omega, by rw [f4, if_pos rfl, eb, h]⟩
    · obtain ⟨k, a1, a2⟩ := h4 c (by omega) hs
      exact ⟨k, by omega, by rw [f4, if_neg (by omega)]; exact a2⟩
theorem NB.skip {b n : Nat} {W : Nat → Int32} {S : Nat → Bool} {Y : AI} (h : NB b n W S Y) (hS : ¬ S b = true) : NB (b + 1) n W S Y := by
  obtain ⟨h1, h2, h3, h4⟩ := h
  refine ⟨fun k hk => ?_, h2, h3, fun c hc hs => ?_⟩
  · obtain ⟨a1, a2, a3⟩ := h1 k hk
    exact ⟨a1, by omega, a3⟩
  · by_cases h : c = b
    · rw [h] at hs; exact absurd hs hS
    · exact h4 c (by omega) hs
theorem sAdds_spec {W : Nat → Int32} {S : Nat → Bool} {Y0 : AI} (hW : ∀ k, k < 256 → Y0 14 k = W k) (hS : ∀ b, b < 32 → (Y0 15 b = 0 ↔ S b = false)) : ∀ (n b q : Nat) (Y : AI), b + n = 32 → q + cS S n b ≤ 3 → Y 3 0 = Int32.ofNat q → (∀ c, ¬ c = 3 → ¬ c = 4 → ¬ c = 5 → Y c = Y0 c) → (∀ j, ¬ j = 0 → Y 3 j = Y0 3 j) → NB b q W S Y → sAdds n b Y 3 0 = Int32.ofNat (q + cS S n b) ∧ (∀ c, ¬ c = 3 → ¬ c = 4 → ¬ c = 5 → sAdds n b Y c = Y0 c) ∧ (∀ j, ¬ j = 0 → sAdds n b Y 3 j = Y0 3 j) ∧ NB 32 (q + cS S n b) W S (sAdds n b Y) := by
  intro n
  induction n with
  | zero =>
    intro b q Y hb _ h1 h2 h3 h4
    obtain rfl : b = 32 := by omega
    exact ⟨h1, h2, h3, h4⟩
  | succ n ih =>
    intro b q Y hb hq h1 h2 h3 h4
    unfold sAdds
    unfold cS at hq ⊢
    have e15 : Y 15 b = Y0 15 b := congrFun (h2 15 (by decide) (by decide) (by decide)) b
    by_cases hs : S b = true
    · rw [if_pos hs] at hq ⊢
      rw [if_neg (show ¬ Y 15 b = 0 from fun h => by
        rw [e15] at h
        have := (hS b (by omega)).mp h
        rw [hs] at this
        cases this)]
      have hW' : ∀ k, k < 256 → Y 14 k = W k := fun k hk => (congrFun (h2 14 (by decide) (by decide) (by decide)) k).trans (hW k hk)
      have g := h4.add h1 (by omega) (by omega) hs hW'
      have e := sAdd_of (b := b) h1 (by omega)
      have r := ih (b + 1) (q + 1) (sAdd b Y) (by omega) (by omega) (by rw [e, up2_eq]) (fun c h3 h4 h5 => by rw [e, up2_b h3, cpI_b h5, up2_b h4]; exact h2 c h3 h4 h5) (fun j hj => by rw [e, up2_ne (fun hh => hj hh.2), cpI_b (by decide), up2_b (by decide)]; exact h3 j hj) g
      rwa [show q + 1 + cS S n (b + 1) = q + (1 + cS S n (b + 1)) from by omega] at r
    · rw [if_neg hs] at hq ⊢
      rw [if_pos (show Y 15 b = 0 from by
        rw [e15]
        refine (hS b (by omega)).mpr ?_
        simpa using hs), Nat.zero_add] at *
      exact ih (b + 1) q Y (by omega) hq h1 h2 h3 (h4.skip hs)
/-- both rows beside each other -/
def PR (m n : Nat) (J0 Y0 J Y : AI) : Prop := (J m 47 = Int32.ofNat n ∧ Y 3 0 = Int32.ofNat n) ∧ (∀ k, k < n → J (m + 22) k = Y 4 k) ∧ (∀ k, k < 8 * n → J (m + 23) k = Y 5 k) ∧ (∀ b, ¬ b = m → ¬ b = m + 22 → ¬ b = m + 23 → J b = J0 b) ∧ (∀ j, ¬ j = 47 → J m j = J0 m j) ∧ (∀ c, ¬ c = 3 → ¬ c = 4 → ¬ c = 5 → Y c = Y0 c)
section PRs
variable {kad : Nat → Nat} {N : Nat} {Z : AZ} {m : Nat} {J0 Y0 : AI} {S : Nat → Bool}
theorem PR.add {n b : Nat} {J Y : AI} (h : PR m n J0 Y0 J Y) (hn : n < 3) (hb : b < 32) (hW : ∀ k, k < 256 → J0 (m + 25) k = Y0 14 k) : PR m (n + 1) J0 Y0 (up2 (cpI (up2 J (m + 22) n (Int32.ofNat b)) (m + 25) (m + 23) (8 * b) (8 * n) 8) m 47 (Int32.ofNat (n + 1))) (sAdd b Y) := by
  obtain ⟨⟨h1, h2⟩, h3, h4, h5, h6, h7⟩ := h
  rw [sAdd_of h2 hn]
  refine ⟨⟨up2_eq, up2_eq⟩, fun k hk => ?_, fun k hk => ?_, fun c c1 c2 c3 => ?_, fun j hj => ?_, fun c c1 c2 c3 => ?_⟩
  · rw [up2_b (show ¬ m + 22 = m by omega), cpI_b (show ¬ m + 22 = m + 23 by omega), up2_b (show ¬ 4 = 3 by decide), cpI_b (show ¬ 4 = 5 by decide)]
    by_cases e : k = n
    · subst e; rw [up2_eq, up2_eq]
    · rw [up2_ne (fun hh => e hh.2), up2_ne (fun hh => e hh.2)]
      exact h3 k (by omega)
  · rw [up2_b (by omega), up2_b (show ¬ 5 = 3 by decide)]
    by_cases e : 8 * n ≤ k ∧ k < 8 * n + 8
    · rw [cpI_at e, cpI_at e, up2_b (by omega), up2_b (by decide), h5 _ (by omega) (by omega) (by omega), h7 14 (by decide) (by decide) (by decide)]
      exact hW _ (by omega)
    · rw [cpI_out e, cpI_out e, up2_b (by omega), up2_b (by decide)]
      exact h4 k (by omega)
  · rw [up2_b c1, cpI_b c3, up2_b c2]
    exact h5 c c1 c2 c3
  · rw [up2_ne (fun hh => hj hh.2), cpI_b (by omega), up2_b (by omega)]
    exact h6 j hj
  · rw [up2_b c1, cpI_b c3, up2_b c2]
    exact h7 c c1 c2 c3
end PRs
