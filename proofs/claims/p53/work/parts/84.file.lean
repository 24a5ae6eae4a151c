/-! a file's size and its words, in both -/
def wOf (D : Nat → Int32) (t p : Nat) : Int32 := D (8 * nT (D (40 + 4 * t + (2 + p / 8))) + p % 8)
def bdN (x : Int32) : Prop := x < 1 ∨ 65535 < x
def bdP (D : Nat → Int32) (t : Nat) (p : Int32) : Prop := p < 0 ∨ D (40 + 4 * t + 1) ≤ p
section FS
variable {kad : Nat → Nat} {N : Nat} {Z : AZ} {g m d : Nat} {I : AI} {X : AI} {D : Nat → Int32}
theorem FF.lw2 (h : FF X) : LW (X 9) := by
  rcases h with h | ⟨n, dd, h⟩
  · exact h.2.2.1
  · obtain ⟨-, -, -, -, h5, h6⟩ := h
    by_cases hd : dd ≤ n
    · exact (h5 hd).2.1
    · exact (h6 (by omega)).1
theorem DK.lw2 (h : DK D) : LW D := by
  rcases h with h | ⟨n, bs, f, h⟩
  · exact h.2.1
  · exact h.2.2.2.2.1
theorem LWe.fblk {t p : Nat} (h : LWe D t) (hp : p < nT (D (40 + 4 * t + 1))) : nT (D (40 + 4 * t + (2 + p / 8))) < 32 ∧ p < 16 := by
  obtain ⟨-, l1, l2, l3, l4⟩ := h
  refine ⟨?_, by omega⟩
  rcases (show p / 8 = 0 ∨ p / 8 = 1 by omega) with e | e
  · rw [e]
    exact (l4 2 (Or.inl rfl) (fun hh => by have := l2.mp hh; omega)).2
  · rw [e]
    exact (l4 3 (Or.inr rfl) (fun hh => by have := l3.mp hh; omega)).2
theorem K175 (hN : 2000 ≤ N) (hD : ∀ k, k < 256 → I (g + 123) k = D k) (name : Int32) : f175 kad N Z g name I = some (if name < 1 ∨ 65535 < name then .inr (aEC 0) else if sFind D name 7 0 < 6 then .inl (Int32.ofNat (sFind D name 7 0)) else .inr (aEC 3), I) := by
  unfold f175
  rw [K138, Option.bind_some]
  by_cases hb : name < 1 ∨ 65535 < name
  · rw [if_pos hb, if_pos hb]; rfl
  · rw [if_neg hb, if_neg hb]
    unfold xB
    dsimp only
    rw [K51 (d := g + 122) hN hD, Option.bind_some]
    dsimp only
    by_cases hf : sFind D name 7 0 < 6
    · rw [if_pos hf, if_pos hf, if_pos (show (0 : Int32) ≤ Int32.ofNat (sFind D name 7 0) from (of_le (m := 0) (by decide) (by omega)).mpr (by omega))]
    · rw [if_neg hf, if_neg hf, if_neg (by decide)]
theorem K171 (hN : 2000 ≤ N) (H : RM (g + 114) I X) (name : Int32) : f171 kad N Z g name I = some (rx [0, 3] (if name < 1 ∨ 65535 < name then 1 else if sFind (X 9) name 7 0 < 6 then 0 else 2) (X 9 (40 + 4 * sFind (X 9) name 7 0 + 1)), I) := by
  have h9 : ∀ k, k < 256 → I (g + 123) k = X 9 k := fun k hk => H 9 k (by decide) hk
  unfold f171
  rw [K175 hN h9, Option.bind_some]
  by_cases hb : name < 1 ∨ 65535 < name
  · rw [if_pos hb, if_pos hb]; rfl
  · rw [if_neg hb, if_neg hb]
    by_cases hf : sFind (X 9) name 7 0 < 6
    · rw [if_pos hf, if_pos hf]
      unfold xB
      dsimp only
      rw [show (1 : Int32) = Int32.ofNat 1 from rfl, K50 hf (by decide), Option.bind_some, show g + 122 + 1 = g + 123 from rfl, h9 _ (by omega)]
      rfl
    · rw [if_neg hf, if_neg hf]; rfl
theorem K50p {t : Nat} (ht : t < 6) (p : Int32) : f50 kad N Z d (Int32.ofNat t) (if (8 : Int32) ≤ p then 3 else 2) I = some (I (d + 1) (40 + 4 * t + (if (8 : Int32) ≤ p then 3 else 2)), I) := by
  by_cases h : (8 : Int32) ≤ p
  · rw [if_pos h, if_pos h]
    exact K50 (w := 3) ht (by decide)
  · rw [if_neg h, if_neg h]
    exact K50 (w := 2) ht (by decide)
theorem not_bdP {t : Nat} {p : Int32} (hw : wd (D (40 + 4 * t + 1))) (h : ¬ (p < 0 ∨ D (40 + 4 * t + 1) ≤ p)) : p = Int32.ofNat (nT p) ∧ nT p < nT (D (40 + 4 * t + 1)) := by
  have h0 : ¬ p < 0 := fun hh => h (Or.inl hh)
  have h1 : ¬ D (40 + 4 * t + 1) ≤ p := fun hh => h (Or.inr hh)
  have e := of_nT h0
  have l := Int32.toInt_lt p
  have hn : nT p = p.toInt.toNat := rfl
  refine ⟨e.symm, ?_⟩
  rw [← of_nT (wd_nn hw), ← e] at h1
  have := (wd_n hw).2.1
  rcases Nat.lt_or_ge (nT p) (nT (D (40 + 4 * t + 1))) with hh | hh
  · exact hh
  · exact absurd ((of_le (by omega) (by omega)).mpr hh) h1
end FS
