/-! what is asked of a machine, in both -/
def sFl (X : AI) : Int32 := sZL X + (if X 1 7 = 0 then 0 else 4) + (if X 1 8 = 0 then 0 else 8) + (if X 1 9 = 0 then 0 else 16)
section QU
variable {kad : Nat → Nat} {N : Nat} {Z : AZ} {g m q s kc t : Nat} {I : AI} {X K B : AI} {M D : Nat → Int32} {W : Int32}
theorem RM.f1 {a k : Nat} (H : RM a I X) (hk : k < 14 := by decide) : I (a + 1) k = X 1 k := H 1 k (by decide) hk
theorem ML.f1 {k : Nat} (H : ML m I X) (hk : k < 14 := by decide) : I m (mF k) = X 1 k := H.1 1 k (Or.inl rfl) hk
theorem RM.q1 {k : Nat} (H : RM (g + 114) I X) (hk : k < 14 := by decide) : I (g + 115) k = X 1 k := H.f1 hk
theorem ML.q1 {j k : Nat} (H : ML m I X) (hj : mF k = j := by rfl) (hk : k < 14 := by decide) : I m j = X 1 k := by rw [← hj]; exact H.f1 hk
theorem wI_ok {b j : Nat} {v : Int32} : wI I b j v = some (up2 I b j v) := rfl
theorem up0 {j : Nat} {v : Int32} (h : ¬ j = 0) : up2 I m 0 v m j = I m j := up2_ne (fun hh => h hh.2)
theorem K150 (H : RM (g + 114) I X) : f150 kad N Z g I = some (X 1 0, I) := by unfold f150; rw [H.q1]
theorem K151 (H : RM (g + 114) I X) : f151 kad N Z g I = some (X 1 1, I) := by unfold f151; rw [H.q1]
theorem K152 (H : RM (g + 114) I X) : f152 kad N Z g I = some (X 1 2, I) := by unfold f152; rw [H.q1]
theorem K154 (H : RM (g + 114) I X) : f154 kad N Z g I = some (X 1 3, I) := by unfold f154; rw [H.q1]
theorem K155 (H : RM (g + 114) I X) : f155 kad N Z g I = some (X 1 4, I) := by unfold f155; rw [H.q1]
theorem K161 (H : RM (g + 114) I X) : f161 kad N Z g I = some (X 1 12, I) := by unfold f161; rw [H.q1]
theorem K153 : f153 kad N Z g I = some (I g 5, I) := rfl
theorem K39 {a : Nat} (H : RM a I X) : f39 kad N Z (a + 1) I = some (sZL X, I) := by
  unfold f39 f39_b12 f39_b24 sZL
  rw [H.f1 (k := 5), H.f1 (k := 6)]
  by_cases h5 : X 1 5 = 0
  · rw [if_pos h5, if_pos h5]
    by_cases h6 : X 1 6 = 0
    · rw [if_pos h6, if_pos h6]
    · rw [if_neg h6, if_neg h6]
  · rw [if_neg h5, if_neg h5]
    by_cases h6 : X 1 6 = 0
    · rw [if_pos h6, if_pos h6]
    · rw [if_neg h6, if_neg h6]
theorem if_some {c : Prop} [Decidable c] {a b : Int32} {f : Int32 → Option (Int32 × AI)} : (if c then f a else f b) = f (if c then a else b) := by
  by_cases h : c
  · rw [if_pos h, if_pos h]
  · rw [if_neg h, if_neg h]
theorem K40 {a : Nat} (H : RM a I X) : f40 kad N Z (a + 1) I = some (sFl X, I) := by
  unfold f40
  rw [K39 H, Option.bind_some]
  dsimp only
  unfold f40_b16 f40_b30 f40_b44 sFl
  simp only [H.f1 (k := 7), H.f1 (k := 8), H.f1 (k := 9)]
  by_cases h7 : X 1 7 = 0
  · rw [if_pos h7, if_pos h7]
    by_cases h8 : X 1 8 = 0
    · rw [if_pos h8, if_pos h8]
      by_cases h9 : X 1 9 = 0
      · rw [if_pos h9, if_pos h9]
      · rw [if_neg h9, if_neg h9]
    · rw [if_neg h8, if_neg h8]
      by_cases h9 : X 1 9 = 0
      · rw [if_pos h9, if_pos h9]
      · rw [if_neg h9, if_neg h9]
  · rw [if_neg h7, if_neg h7]
    by_cases h8 : X 1 8 = 0
    · rw [if_pos h8, if_pos h8]
      by_cases h9 : X 1 9 = 0
      · rw [if_pos h9, if_pos h9]
      · rw [if_neg h9, if_neg h9]
    · rw [if_neg h8, if_neg h8]
      by_cases h9 : X 1 9 = 0
      · rw [if_pos h9, if_pos h9]
      · rw [if_neg h9, if_neg h9]
theorem K156 (H : RM (g + 114) I X) : f156 kad N Z g I = some (sFl X, I) := by
  unfold f156
  rw [show g + 115 = g + 114 + 1 from rfl, K40 H, Option.bind_some]
theorem K157 (H : RM (g + 114) I X) : f157 kad N Z g I = some (sLeft X, I) := by
  unfold f157
  rw [show g + 117 = g + 114 + 3 from rfl, K63 H, Option.bind_some]
/-- an index within bounds -/
theorem ix_in {i : Int32} {b n : Nat} (h : ¬ (i < 0 ∨ Int32.ofNat b < i)) (hb : b < n) (hn : n < 2147483648) : ixA n i = some (nT i) ∧ nT i ≤ b := by
  obtain ⟨e, _, e2⟩ := in_nat (i := i) (a := 0) (b := b) h (by decide) (by omega)
  exact ⟨(congrArg (ixA n) e).trans (ixA_of (by omega) hn), e2⟩
theorem K159 (H : RM (g + 114) I X) (i : Int32) : f159 kad N Z g i I = some (rx [0] (if i < 0 ∨ 255 < i then 1 else 0) (X 6 (nT i)), I) := by
  unfold f159
  rw [K138, Option.bind_some]
  by_cases hb : i < 0 ∨ 255 < i
  · rw [if_pos hb, if_pos hb]; rfl
  · rw [if_neg hb, if_neg hb]
    obtain ⟨e, e2⟩ := ix_in (b := 255) (n := 256) hb (by decide) (by decide)
    unfold xB
    dsimp only
    rw [e, Option.bind_some, rx_0, show I (g + 120) (nT i) = X 6 (nT i) from H 6 (nT i) (by decide) (show nT i < 256 by omega)]
theorem K168 (H : RM (g + 114) I X) : f168 kad N Z g I = some (X 8 1, I) := by
  unfold f168
  rw [show I (g + 122) 1 = X 8 1 from H 8 1 (by decide) rfl]
theorem K169 (H : RM (g + 114) I X) (i j : Int32) : f169 kad N Z g i j I = some (rx [0] (if (i < 0 ∨ 31 < i) ∨ (j < 0 ∨ 7 < j) then 1 else 0) (X 9 (8 * nT i + nT j)), I) := by
  unfold f169
  rw [K138, Option.bind_some]
  by_cases hb : i < 0 ∨ 31 < i
  · rw [if_pos hb, if_pos (Or.inl hb)]; rfl
  · rw [if_neg hb]
    unfold xB
    dsimp only
    rw [K138, Option.bind_some]
    by_cases hc : j < 0 ∨ 7 < j
    · rw [if_pos hc, if_pos (Or.inr hc)]; rfl
    · rw [if_neg hc, if_neg (fun h => h.elim hb hc)]
      dsimp only
      obtain ⟨e, _, e2⟩ := in_nat (i := i) (a := 0) (b := 31) hb
      obtain ⟨d, _, d2⟩ := in_nat (i := j) (a := 0) (b := 7) hc
      have h := f43_ok (kad := kad) (N := N) (Z := Z) (d := g + 122) (J := I) (b := nT i) (p := nT j) (by omega) (by omega)
      rw [← e, ← d] at h
      rw [h, Option.bind_some, rx_0, show I (g + 122 + 1) (8 * nT i + nT j) = X 9 (8 * nT i + nT j) from H 9 _ (by decide) (show 8 * nT i + nT j < 256 by omega)]
theorem K170 (hN : 2000 ≤ N) (H : RM (g + 114) I X) : f170 kad N Z g I = some (cFi (X 9) 6 0 0, I) := by
  unfold f170
  rw [K52 hN, cFi_cong (D := X 9) (fun k hk => H 9 k (by decide) hk) 6 0 0 (by decide), Option.bind_some]
theorem K173 (hN : 2000 ≤ N) (H : RM (g + 114) I X) (hw : ∀ k, k < 256 → wd (X 9 k)) : f173 kad N Z g I = some (cFr (X 9) 24 8 0, I) := by
  have h9 : ∀ k, k < 256 → I (g + 122 + 1) k = X 9 k := fun k hk => H 9 k (by decide) hk
  unfold f173
  rw [K57 hN (by rw [h9 _ (by decide)]; exact hw _ (by decide)) (by rw [h9 _ (by decide)]; exact hw _ (by decide)), cFr_cong h9 24 8 0 (by decide), Option.bind_some]
/-- a machine that is off does no step -/
theorem C146_off (H : RM (g + 114) I X) (h0 : X 1 0 = 0) (i : Int32) : f146 kad N Z g i I = some (rx [0, 1] (if i < 1 ∨ 100 < i then 1 else 2) 0, I) := by
  unfold f146
  rw [K138, Option.bind_some]
  by_cases hb : i < 1 ∨ 100 < i
  · rw [if_pos hb, if_pos hb]; rfl
  · rw [if_neg hb, if_neg hb]
    unfold xB
    dsimp only
    rw [K165 H, Option.bind_some, if_pos h0]; rfl
theorem C147_off (H : RM (g + 114) I X) (h0 : X 1 0 = 0) (i j : Int32) : f147 kad N Z g i j I = some (rx [0, 1] (if (i < 0 ∨ 255 < i) ∨ (j < 1 ∨ 100 < j) then 1 else 2) 0, I) := by
  unfold f147
  rw [K138, Option.bind_some]
  by_cases hb : i < 0 ∨ 255 < i
  · rw [if_pos hb, if_pos (Or.inl hb)]; rfl
  · rw [if_neg hb]
    unfold xB
    dsimp only
    rw [K138, Option.bind_some]
    by_cases hc : j < 1 ∨ 100 < j
    · rw [if_pos hc, if_pos (Or.inr hc)]; rfl
    · rw [if_neg hc, if_neg (fun h => h.elim hb hc)]
      dsimp only
      rw [K165 H, Option.bind_some, if_pos h0]; rfl
theorem C148_off (H : RM (g + 114) I X) (h0 : X 1 0 = 0) (i : Int32) : f148 kad N Z g i I = some (rx [0, 1] (if i < 1 ∨ 200 < i then 1 else 2) 0, I) := by
  unfold f148
  rw [K138, Option.bind_some]
  by_cases hb : i < 1 ∨ 200 < i
  · rw [if_pos hb, if_pos hb]; rfl
  · rw [if_neg hb, if_neg hb]
    unfold xB
    dsimp only
    rw [K165 H, Option.bind_some, if_pos h0]; rfl
theorem C149_off (H : RM (g + 114) I X) (h0 : X 1 0 = 0) (i : Int32) : f149 kad N Z g i I = some (rx [0, 1] (if i < 0 ∨ 65535 < i then 1 else 2) 0, I) := by
  unfold f149
  rw [K138, Option.bind_some]
  by_cases hb : i < 0 ∨ 65535 < i
  · rw [if_pos hb, if_pos hb]; rfl
  · rw [if_neg hb, if_neg hb]
    unfold xB
    dsimp only
    rw [H.q1, h0, if_neg (by decide)]; rfl
end QU
