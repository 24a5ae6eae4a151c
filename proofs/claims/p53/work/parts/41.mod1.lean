/-! the model's writes, pushes, pulls, interrupts -/
theorem rel_lo {e : Nat} {X Y : AI} {c k : Nat} (hc : mC c) (h3 : Y 3 = X 3) (h1 : Y 1 = X 1) (h10 : Y 10 = X 10) : rel e Y c k → rel e X c k := by
  unfold mC at hc
  intro h
  rcases hc with rfl | rfl | rfl | rfl | rfl | rfl | rfl | rfl | rfl | rfl | rfl | rfl
  · exact (show k < 14 from h)
  · exact (show k < 4 from h)
  · have h : k < nT (Y 3 0) ∧ k < 3 := h
    rw [h3] at h
    exact h
  · have h : k < 8 * nT (Y 3 0) ∧ k < 24 := h
    rw [h3] at h
    exact h
  · exact (show k < 256 from h)
  · have h : k < nT (Y 1 12) ∧ k < 60 := h
    rw [h1] at h
    exact h
  · exact (show k = 1 from h)
  · exact (show k < 256 from h)
  · exact (show k = 0 from h)
  · have h : k < nT (Y 10 0) ∧ k < 20 := h
    rw [h10] at h
    exact h
  · have h : k < nT (Y 10 0) ∧ k < 20 := h
    rw [h10] at h
    exact h
  · exact (show e = 1 ∧ k < 256 from h)
section M1
variable {kad : Nat → Nat} {N : Nat} {Z : AZ} {e m s : Nat} {I0 I X : AI}
theorem MR.nt (H : MR e m s I0 I X) {Y : AI} {v1 v2 : Int32} (hY : ∀ c, c < 20 → Y c = X c) (h1 : n1 Y = v1) (h2 : n2 Y = v2) : MR e m s I0 (up2 (up2 I (m + 21) s v2) (m + 20) s v1) Y := by
  obtain ⟨b1, ⟨b2, b3⟩, b4, b5⟩ := H
  refine ⟨fun d j hd hj => ?_, ⟨?_, fun h3 => ?_⟩, fun hs => ?_, fun b j hb => ?_⟩
  · have hj' := rel_lo hd (hY 3 (by decide)) (hY 1 (by decide)) (hY 10 (by decide)) hj
    have hd20 : d < 20 := by unfold mC at hd; omega
    have t := (mA_ne (m := m) (c := d) (k := j) (s := s) hd (fun h => by subst h; exact hj')).2
    rw [up2_ne (fun hh => t (Or.inl hh.1)), up2_ne (fun hh => t (Or.inr hh.1)), hY d hd20]
    exact b1 d j hd hj'
  · rw [up2_b (by omega), up2_b (by omega), b2]
    unfold sLeft
    rw [hY 3 (by decide)]
  · rw [hY 3 (by decide)] at h3 ⊢
    rw [up2_b (by omega), up2_b (by omega)]
    exact b3 h3
  · rw [up2_eq, up2_b (by omega), up2_eq, h1, h2]
    exact ⟨rfl, rfl⟩
  · have hn : ¬ ((b = m + 20 ∨ b = m + 21) ∧ j = s) := fun h => hb (Or.inr (Or.inr h))
    rw [up2_ne (fun hh => hn ⟨Or.inl hh.1, hh.2⟩), up2_ne (fun hh => hn ⟨Or.inr hh.1, hh.2⟩)]
    exact b5 b j hb
theorem MR.nt0 (H : MR e m s I0 I X) {Y : AI} (hY : ∀ c, c < 20 → Y c = X c) (hs : ¬ s < 1000) : MR e m s I0 I Y := by
  obtain ⟨b1, ⟨b2, b3⟩, b4, b5⟩ := H
  refine ⟨fun d j hd hj => ?_, ⟨?_, fun h3 => ?_⟩, fun h => absurd h hs, b5⟩
  · have hj' := rel_lo hd (hY 3 (by decide)) (hY 1 (by decide)) (hY 10 (by decide)) hj
    have hd20 : d < 20 := by unfold mC at hd; omega
    rw [hY d hd20]
    exact b1 d j hd hj'
  · rw [b2]
    unfold sLeft
    rw [hY 3 (by decide)]
  · rw [hY 3 (by decide)] at h3 ⊢
    exact b3 h3
/-- so many words are noted of a step yet -/
def nw (w : Nat) (X : AI) : Prop := X 20 1 = Int32.ofNat w ∧ w ≤ 2 ∧ (1 ≤ w → ¬ X 26 0 = Int32.ofInt (-1))
theorem sNote_lo {i w : Int32} {X : AI} {c : Nat} (h : c < 20) : sNote i w X c = X c := by
  unfold sNote
  split
  · rfl
  · split
    · rfl
    · rw [up2_b (by omega), up2_b (by omega), up2_b (by omega)]
theorem nw_note {w : Nat} {i v : Int32} {X : AI} (h : nw w X) (hw : w < 2) (hi : ¬ i < 0) : nw (w + 1) (sNote i v X) ∧ n1 (sNote i v X) = (if w = 0 then i else X 26 0) ∧ n2 (sNote i v X) = (if w = 0 then Int32.ofInt (-1) else i) := by
  obtain ⟨h1, h2, h3⟩ := h
  have e : nT (X 20 1) = w := by rw [h1]; exact nT_of (by omega)
  have es : sNote i v X = up2 (up2 (up2 X 26 w i) 27 w v) 20 1 (Int32.ofNat (w + 1)) := by
    unfold sNote
    rw [e, h1, if_neg (of_nn (by omega)), if_neg (show ¬ (2 : Int32) ≤ Int32.ofNat w from fun h => absurd ((of_le (m := 2) (by decide) (by omega)).mp h) (by omega)), of_s]
  rw [es]
  have g1 : up2 (up2 (up2 X 26 w i) 27 w v) 20 1 (Int32.ofNat (w + 1)) 20 1 = Int32.ofNat (w + 1) := up2_eq
  have g2 : ∀ k, up2 (up2 (up2 X 26 w i) 27 w v) 20 1 (Int32.ofNat (w + 1)) 26 k = up2 X 26 w i 26 k := fun k => by rw [up2_b (by decide), up2_b (by decide)]
  have hi1 : ¬ i = Int32.ofInt (-1) := fun h => hi (by rw [h]; decide)
  have en : nT (Int32.ofNat (w + 1)) = w + 1 := nT_of (by omega)
  refine ⟨⟨g1, by omega, fun _ => ?_⟩, ?_, ?_⟩
  · rw [g2]
    by_cases h0 : w = 0
    · subst h0
      rw [up2_eq]
      exact hi1
    · rw [up2_ne (fun hh => h0 hh.2.symm)]
      exact h3 (by omega)
  · unfold n1
    rw [g1, g2, en, if_pos (by omega)]
    by_cases h0 : w = 0
    · subst h0
      rw [up2_eq, if_pos rfl]
    · rw [up2_ne (fun hh => h0 hh.2.symm), if_neg h0]
  · unfold n2
    rw [g1, g2, en]
    by_cases h0 : w = 0
    · subst h0
      rw [if_neg (by decide), if_pos rfl]
    · have : w = 1 := by omega
      subst this
      rw [if_pos (by decide), up2_eq, if_neg h0]
theorem n12 {w : Nat} {X : AI} (h : nw w X) (hw : w < 2) : n1 X = (if w = 0 then Int32.ofInt (-1) else X 26 0) ∧ n2 X = Int32.ofInt (-1) := by
  have e : nT (X 20 1) = w := by rw [h.1]; exact nT_of (by omega)
  unfold n1 n2
  rw [e]
  refine ⟨?_, if_neg (by omega)⟩
  by_cases h0 : w = 0
  · rw [if_pos h0, if_neg (by omega)]
  · rw [if_neg h0, if_pos (by omega)]
theorem up2_comm {X : AI} {c k d j : Nat} {v w : Int32} (h : ¬ (c = d ∧ k = j)) : up2 (up2 X c k v) d j w = up2 (up2 X d j w) c k v := by
  funext b q
  unfold up2
  by_cases h1 : b = d ∧ q = j
  · rw [if_pos h1, if_neg (fun hh => h ⟨hh.1.symm.trans h1.1, hh.2.symm.trans h1.2⟩), if_pos h1]
  · rw [if_neg h1]
    by_cases h2 : b = c ∧ q = k
    · rw [if_pos h2, if_pos h2]
    · rw [if_neg h2, if_neg h2, if_neg h1]
theorem ixA_i {n : Nat} {i : Int32} (h0 : ¬ i < 0) (h : nT i < n) (hn : n < 2147483648 := by decide) : ixA n i = some (nT i) := by
  have := ixA_of h hn
  rwa [of_nT h0] at this
theorem sWr_in {i v : Int32} {X : AI} (h0 : ¬ i < 0) (h : nT i < 256) : sWr i v X = up2 (sNote i (X 6 (nT i)) X) 6 (nT i) v := by
  unfold sWr
  rw [if_neg h0, if_neg (fun hh => ?_)]
  rw [← of_nT h0] at hh
  exact absurd ((of_le (m := 256) (by decide) (by omega)).mp hh) (by omega)
theorem sWr_lo {i v : Int32} {X : AI} {c : Nat} (h : c < 20) (h6 : ¬ c = 6) : sWr i v X c = X c := by
  unfold sWr
  split
  · rfl
  · split
    · rfl
    · rw [up2_b h6, sNote_lo h]
theorem sub1 {x : Int32} {n : Nat} (h : x = Int32.ofNat (n + 1)) : x - 1 = Int32.ofNat n := by
  rw [h, ← of_s]
  grind
theorem sRd_of {X : AI} {p : Nat} (hp2 : p < 256) : sRd X (Int32.ofNat p) = X 6 p := by
  unfold sRd
  rw [if_neg (of_nn (by omega)), if_neg (show ¬ (256 : Int32) ≤ Int32.ofNat p from fun hh => absurd ((of_le (m := 256) (by decide) (by omega)).mp hh) (by omega)), nT_of (by omega)]
theorem up2_self {X : AI} {c k : Nat} {v : Int32} (h : X c k = v) : up2 X c k v = X := by
  funext b j
  unfold up2
  split
  · rename_i hh
    rw [hh.1, hh.2, h]
  · rfl
theorem sPush_lo {v : Int32} {X : AI} {c k : Nat} (h : c < 20) (h6 : ¬ c = 6) (h4 : ¬ (c = 1 ∧ k = 4)) : sPush v X c k = X c k := by
  unfold sPush
  rw [sWr_lo h h6, up2_ne h4]
end M1
