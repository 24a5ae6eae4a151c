/-! a file's size and its words, in both -/
def wOf (D : Nat → Int32) (t p : Nat) : Int32 := D (8 * nT (D (40 + 4 * t + (2 + p / 8))) + p % 8)
def bdN (x : Int32) : Prop := x < 1 ∨ 65535 < x
def bdP (D : Nat → Int32) (t : Nat) (p : Int32) : Prop := p < 0 ∨ D (40 + 4 * t + 1) ≤ p
section FS
variable {kad : Nat → Nat} {N : Nat} {Z : AZ} {g m d : Nat} {I : AI} {X : AI} {D : Nat → Int32}
theorem FF.lw2 (h : FF X) : LW (X 9) := by
  rcases h with h | ⟨n, dd, h⟩
  · exact h.2.2.1
  · obtain ⟨-, -, -, -, h5, h6⟩ := h
    by_cases hd : dd ≤ n
    · exact (h5 hd).2.1
    · exact (h6 (by omega)).1
theorem DK.lw2 (h : DK D) : LW D := by
  rcases h with h | ⟨n, bs, f, h⟩
  · exact h.2.1
  · exact h.2.2.2.2.1
theorem LWe.fblk {t p : Nat} (h : LWe D t) (hp : p < nT (D (40 + 4 * t + 1))) : nT (D (40 + 4 * t + (2 + p / 8))) < 32 ∧ p < 16 := by
  obtain ⟨-, l1, l2, l3, l4⟩ := h
  refine ⟨?_, by omega⟩
  rcases (show p / 8 = 0 ∨ p / 8 = 1 by omega) with e | e
  · rw [e]
    exact (l4 2 (Or.inl rfl) (fun hh => by have := l2.mp hh; omega)).2
  · rw [e]
    exact (l4 3 (Or.inr rfl) (fun hh => by have := l3.mp hh; omega)).2
theorem K175 (hN : 2000 ≤ N) (hD : ∀ k, k < 256 → I (g + 123) k = D k) (name : Int32) : f175 kad N Z g name I = some (if name < 1 ∨ 65535 < name then .inr (aEC 0) else if sFind D name 7 0 < 6 then .inl (Int32.ofNat (sFind D name 7 0)) else .inr (aEC 3), I) := by
  unfold f175
  rw [K138, Option.bind_some]
  by_cases hb : name < 1 ∨ 65535 < name
  · rw [if_pos hb, if_pos hb]; rfl
  · rw [if_neg hb, if_neg hb]
    unfold xB
    dsimp only
    rw [K51 (d := g + 122) hN hD, Option.bind_some]
    dsimp only
    by_cases hf : sFind D name 7 0 < 6
    · rw [if_pos hf, if_pos hf, if_pos (show (0 : Int32) ≤ Int32.ofNat (sFind D name 7 0) from (of_le (m := 0) (by decide) (by omega)).mpr (by omega))]
    · rw [if_neg hf, if_neg hf, if_neg (by decide)]
theorem K171 (hN : 2000 ≤ N) (H : RM (g + 114) I X) (name : Int32) : f171 kad N Z g name I = some (rx [0, 3] (if name < 1 ∨ 65535 < name then 1 else if sFind (X 9) name 7 0 < 6 then 0 else 2) (X 9 (40 + 4 * sFind (X 9) name 7 0 + 1)), I) := by
  have h9 : ∀ k, k < 256 → I (g + 123) k = X 9 k := fun k hk => H 9 k (by decide) hk
  unfold f171
  rw [K175 hN h9, Option.bind_some]
  by_cases hb : name < 1 ∨ 65535 < name
  · rw [if_pos hb, if_pos hb]; rfl
  · rw [if_neg hb, if_neg hb]
    by_cases hf : sFind (X 9) name 7 0 < 6
    · rw [if_pos hf, if_pos hf]
      unfold xB
      dsimp only
      rw [show (1 : Int32) = Int32.ofNat 1 from rfl, K50 hf (by decide), Option.bind_some, show g + 122 + 1 = g + 123 from rfl, h9 _ (by omega)]
      rfl
    · rw [if_neg hf, if_neg hf]; rfl
theorem K50p {t : Nat} (ht : t < 6) (p : Int32) : f50 kad N Z d (Int32.ofNat t) (if (8 : Int32) ≤ p then 3 else 2) I = some (I (d + 1) (40 + 4 * t + (if (8 : Int32) ≤ p then 3 else 2)), I) := by
  by_cases h : (8 : Int32) ≤ p
  · rw [if_pos h, if_pos h]
    exact K50 (w := 3) ht (by decide)
  · rw [if_neg h, if_neg h]
    exact K50 (w := 2) ht (by decide)
theorem not_bdP {t : Nat} {p : Int32} (hw : wd (D (40 + 4 * t + 1))) (h : ¬ (p < 0 ∨ D (40 + 4 * t + 1) ≤ p)) : p = Int32.ofNat (nT p) ∧ nT p < nT (D (40 + 4 * t + 1)) := by
  have h0 : ¬ p < 0 := fun hh => h (Or.inl hh)
  have h1 : ¬ D (40 + 4 * t + 1) ≤ p := fun hh => h (Or.inr hh)
  have e := of_nT h0
  have l := Int32.toInt_lt p
  have hn : nT p = p.toInt.toNat := rfl
  refine ⟨e.symm, ?_⟩
  rw [← of_nT (wd_nn hw), ← e] at h1
  have := (wd_n hw).2.1
  rcases Nat.lt_or_ge (nT p) (nT (D (40 + 4 * t + 1))) with hh | hh
  · exact hh
  · exact absurd ((of_le (by omega) (by omega)).mpr hh) h1
theorem K172 (hN : 2000 ≤ N) (H : RM (g + 114) I X) (hw : LW (X 9)) (name p : Int32) : f172 kad N Z g name p I = some (rx [0, 3, 2] (if name < 1 ∨ 65535 < name then 1 else if sFind (X 9) name 7 0 < 6 then (if p < 0 ∨ X 9 (40 + 4 * sFind (X 9) name 7 0 + 1) ≤ p then 3 else 0) else 2) (wOf (X 9) (sFind (X 9) name 7 0) (nT p)), I) := by
  have h9 : ∀ k, k < 256 → I (g + 123) k = X 9 k := fun k hk => H 9 k (by decide) hk
  unfold f172
  rw [K175 hN h9, Option.bind_some]
  by_cases hb : name < 1 ∨ 65535 < name
  · rw [if_pos hb, if_pos hb]; rfl
  · rw [if_neg hb, if_neg hb]
    by_cases hf : sFind (X 9) name 7 0 < 6
    · rw [if_pos hf, if_pos hf]
      unfold xB f172_b26
      dsimp only
      generalize sFind (X 9) name 7 0 = t at hf
      have q1 : f50 kad N Z (g + 122) (Int32.ofNat t) 1 I = some (X 9 (40 + 4 * t + 1), I) := by rw [show (1 : Int32) = Int32.ofNat 1 from rfl, K50 hf (by decide), show g + 122 + 1 = g + 123 from rfl, h9 _ (by omega)]
      by_cases h0 : p < 0
      · rw [if_pos h0, if_pos (Or.inl h0)]; rfl
      · rw [if_neg h0, q1, Option.bind_some]
        dsimp only
        by_cases h1 : X 9 (40 + 4 * t + 1) ≤ p
        · rw [if_neg (Int32.not_lt.mpr h1), if_pos (Or.inr h1)]; rfl
        · have hn : ¬ (p < 0 ∨ X 9 (40 + 4 * t + 1) ≤ p) := fun h => h.elim h0 h1
          obtain ⟨e, el⟩ := not_bdP (hw.1 _ (by omega)) hn
          obtain ⟨b1, b2⟩ := (hw.2 t hf).fblk el
          rw [if_pos (Int32.not_le.mp h1), if_neg hn]
          unfold f54
          rw [f48_ok, Option.bind_some]
          dsimp only
          rw [K50p hf, Option.bind_some]
          dsimp only
          have ep : (if (8 : Int32) ≤ p then 3 else 2) = 2 + nT p / 8 := by
            by_cases h8 : (8 : Int32) ≤ p
            · have := (of_le (m := 8) (n := nT p) (by decide) (by omega)).mp (by rw [← e]; exact h8)
              rw [if_pos h8]; omega
            · have : ¬ 8 ≤ nT p := fun hh => h8 (by rw [e]; exact (of_le (m := 8) (n := nT p) (by decide) (by omega)).mpr hh)
              rw [if_neg h8]; omega
          rw [ep, show g + 122 + 1 = g + 123 from rfl, h9 _ (by omega), mod8 h0]
          have eb := of_nT (wd_nn (hw.1 (40 + 4 * t + (2 + nT p / 8)) (by omega)))
          have hq := f43_ok (kad := kad) (N := N) (Z := Z) (d := g + 122) (J := I) (b := nT (X 9 (40 + 4 * t + (2 + nT p / 8)))) (p := nT p % 8) b1 (by omega)
          rw [eb] at hq
          rw [hq, Option.bind_some, show g + 122 + 1 = g + 123 from rfl]
          dsimp only
          rw [Option.bind_some, h9 _ (by omega)]
          rfl
    · rw [if_neg hf, if_neg hf]; rfl
end FS
