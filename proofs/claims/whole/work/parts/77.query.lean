/-! what is asked of a machine, in both -/
def sFl (X : AI) : Int32 := sZL X + (if X 1 7 = 0 then 0 else 4) + (if X 1 8 = 0 then 0 else 8) + (if X 1 9 = 0 then 0 else 16)
section QU
variable {kad : Nat → Nat} {N : Nat} {Z : AZ} {g m q s kc t : Nat} {I : AI} {X K B : AI} {M D : Nat → Int32} {W : Int32}
theorem RM.f1 {a k : Nat} (H : RM a I X) (hk : k < 14 := by decide) : I (a + 1) k = X 1 k := H 1 k (by decide) hk
theorem ML.f1 {k : Nat} (H : ML m I X) (hk : k < 14 := by decide) : I m (mF k) = X 1 k := H.1 1 k (Or.inl rfl) hk
theorem RM.q1 {k : Nat} (H : RM (g + 114) I X) (hk : k < 14 := by decide) : I (g + 115) k = X 1 k := H.f1 hk
theorem ML.q1 {j k : Nat} (H : ML m I X) (hj : mF k = j := by rfl) (hk : k < 14 := by decide) : I m j = X 1 k := by rw [← hj]; exact H.f1 hk
theorem wI_ok {b j : Nat} {v : Int32} : wI I b j v = some (up2 I b j v) := rfl
theorem up0 {j : Nat} {v : Int32} (h : ¬ j = 0) : up2 I m 0 v m j = I m j := up2_ne (fun hh => h hh.2)
theorem K150 (H : RM (g + 114) I X) : f150 kad N Z g I = some (X 1 0, I) := by unfold f150; rw [H.q1]
theorem K151 (H : RM (g + 114) I X) : f151 kad N Z g I = some (X 1 1, I) := by unfold f151; rw [H.q1]
theorem K152 (H : RM (g + 114) I X) : f152 kad N Z g I = some (X 1 2, I) := by unfold f152; rw [H.q1]
theorem K154 (H : RM (g + 114) I X) : f154 kad N Z g I = some (X 1 3, I) := by unfold f154; rw [H.q1]
theorem K155 (H : RM (g + 114) I X) : f155 kad N Z g I = some (X 1 4, I) := by unfold f155; rw [H.q1]
theorem K161 (H : RM (g + 114) I X) : f161 kad N Z g I = some (X 1 12, I) := by unfold f161; rw [H.q1]
theorem M266 (H : ML m I X) : f266 kad N Z m I = some (X 1 0, up2 I m 0 0) := by
  unfold f266; rw [wI_ok, Option.bind_some, up0 (by decide), H.q1 (k := 0)]
theorem M267 (H : ML m I X) : f267 kad N Z m I = some (X 1 1, up2 I m 0 0) := by
  unfold f267; rw [wI_ok, Option.bind_some, up0 (by decide), H.q1 (k := 1)]
theorem M268 (H : ML m I X) : f268 kad N Z m I = some (X 1 2, up2 I m 0 0) := by
  unfold f268; rw [wI_ok, Option.bind_some, up0 (by decide), H.q1 (k := 2)]
theorem M270 (H : ML m I X) : f270 kad N Z m I = some (X 1 3, up2 I m 0 0) := by
  unfold f270; rw [wI_ok, Option.bind_some, up0 (by decide), H.q1 (k := 3)]
theorem M271 (H : ML m I X) : f271 kad N Z m I = some (X 1 4, up2 I m 0 0) := by
  unfold f271; rw [wI_ok, Option.bind_some, up0 (by decide), H.q1 (k := 4)]
theorem M279 (H : ML m I X) : f279 kad N Z m I = some (X 1 12, up2 I m 0 0) := by
  unfold f279; rw [wI_ok, Option.bind_some, up0 (by decide), H.q1 (k := 12)]
theorem K153 : f153 kad N Z g I = some (I g 5, I) := rfl
theorem M269 : f269 kad N Z m I = some (I m 40, up2 I m 0 0) := by
  unfold f269; rw [wI_ok, Option.bind_some, up0 (by decide)]
theorem K39 {a : Nat} (H : RM a I X) : f39 kad N Z (a + 1) I = some (sZL X, I) := by
  unfold f39 f39_b12 f39_b24 sZL
  rw [H.f1 (k := 5), H.f1 (k := 6)]
  by_cases h5 : X 1 5 = 0
  · rw [if_pos h5, if_pos h5]
    by_cases h6 : X 1 6 = 0
    · rw [if_pos h6, if_pos h6]
    · rw [if_neg h6, if_neg h6]
  · rw [if_neg h5, if_neg h5]
    by_cases h6 : X 1 6 = 0
    · rw [if_pos h6, if_pos h6]
    · rw [if_neg h6, if_neg h6]
theorem if_some {c : Prop} [Decidable c] {a b : Int32} {f : Int32 → Option (Int32 × AI)} : (if c then f a else f b) = f (if c then a else b) := by
  by_cases h : c
  · rw [if_pos h, if_pos h]
  · rw [if_neg h, if_neg h]
theorem K40 {a : Nat} (H : RM a I X) : f40 kad N Z (a + 1) I = some (sFl X, I) := by
  unfold f40
  rw [K39 H, Option.bind_some]
  dsimp only
  unfold f40_b16 f40_b30 f40_b44 sFl
  simp only [H.f1 (k := 7), H.f1 (k := 8), H.f1 (k := 9)]
  by_cases h7 : X 1 7 = 0
  · rw [if_pos h7, if_pos h7]
    by_cases h8 : X 1 8 = 0
    · rw [if_pos h8, if_pos h8]
      by_cases h9 : X 1 9 = 0
      · rw [if_pos h9, if_pos h9]
      · rw [if_neg h9, if_neg h9]
    · rw [if_neg h8, if_neg h8]
      by_cases h9 : X 1 9 = 0
      · rw [if_pos h9, if_pos h9]
      · rw [if_neg h9, if_neg h9]
  · rw [if_neg h7, if_neg h7]
    by_cases h8 : X 1 8 = 0
    · rw [if_pos h8, if_pos h8]
      by_cases h9 : X 1 9 = 0
      · rw [if_pos h9, if_pos h9]
      · rw [if_neg h9, if_neg h9]
    · rw [if_neg h8, if_neg h8]
      by_cases h9 : X 1 9 = 0
      · rw [if_pos h9, if_pos h9]
      · rw [if_neg h9, if_neg h9]
theorem M272 (H : ML m I X) : f272 kad N Z m I = some (sFl X, I) := by
  unfold f272 f272_b12 f272_b24 f272_b37 f272_b51 f272_b65 sFl sZL
  simp only [H.q1 (j := 29) (k := 5), H.q1 (j := 30) (k := 6), H.q1 (j := 31) (k := 7), H.q1 (j := 32) (k := 8), H.q1 (j := 33) (k := 9)]
  by_cases h5 : X 1 5 = 0
  all_goals by_cases h6 : X 1 6 = 0
  all_goals by_cases h7 : X 1 7 = 0
  all_goals by_cases h8 : X 1 8 = 0
  all_goals by_cases h9 : X 1 9 = 0
  all_goals simp only [h5, h6, h7, h8, h9, if_true, if_false]
  all_goals first | rfl | (congr 2 <;> first | rfl | grind)
theorem K156 (H : RM (g + 114) I X) : f156 kad N Z g I = some (sFl X, I) := by
  unfold f156
  rw [show g + 115 = g + 114 + 1 from rfl, K40 H, Option.bind_some]
theorem M273 (H : ML m I X) : f273 kad N Z m I = some (sFl X, up2 I m 0 0) := by
  unfold f273
  rw [wI_ok, Option.bind_some, M272 (H.o (Or.inl rfl)), Option.bind_some]
theorem K157 (H : RM (g + 114) I X) : f157 kad N Z g I = some (sLeft X, I) := by
  unfold f157
  rw [show g + 117 = g + 114 + 3 from rfl, K63 H, Option.bind_some]
theorem M274 (H : ML m I X) : f274 kad N Z m I = some (sLeft X, up2 I m 0 0) := by
  unfold f274; rw [wI_ok, Option.bind_some, up0 (by decide), H.2.1]
/-- an index within bounds -/
theorem ix_in {i : Int32} {b n : Nat} (h : ¬ (i < 0 ∨ Int32.ofNat b < i)) (hb : b < n) (hn : n < 2147483648) : ixA n i = some (nT i) ∧ nT i ≤ b := by
  obtain ⟨e, _, e2⟩ := in_nat (i := i) (a := 0) (b := b) h (by decide) (by omega)
  exact ⟨(congrArg (ixA n) e).trans (ixA_of (by omega) hn), e2⟩
theorem K158 (H : RM (g + 114) I X) (i : Int32) : f158 kad N Z g i I = some (rx [0] (if i < 0 ∨ 3 < i then 1 else 0) (X 2 (nT i)), I) := by
  unfold f158
  rw [K138, Option.bind_some]
  by_cases hb : i < 0 ∨ 3 < i
  · rw [if_pos hb, if_pos hb]; rfl
  · rw [if_neg hb, if_neg hb]
    obtain ⟨e, e2⟩ := ix_in (b := 3) (n := 4) hb (by decide) (by decide)
    unfold xB
    dsimp only
    rw [e, Option.bind_some, rx_0, show I (g + 116) (nT i) = X 2 (nT i) from H 2 (nT i) (by decide) (show nT i < 4 by omega)]
theorem K159 (H : RM (g + 114) I X) (i : Int32) : f159 kad N Z g i I = some (rx [0] (if i < 0 ∨ 255 < i then 1 else 0) (X 6 (nT i)), I) := by
  unfold f159
  rw [K138, Option.bind_some]
  by_cases hb : i < 0 ∨ 255 < i
  · rw [if_pos hb, if_pos hb]; rfl
  · rw [if_neg hb, if_neg hb]
    obtain ⟨e, e2⟩ := ix_in (b := 255) (n := 256) hb (by decide) (by decide)
    unfold xB
    dsimp only
    rw [e, Option.bind_some, rx_0, show I (g + 120) (nT i) = X 6 (nT i) from H 6 (nT i) (by decide) (show nT i < 256 by omega)]
theorem M185_1 : f185 kad N Z m 1 I = some (0, up2 I m 0 1) := by rw [M185, if_neg (by decide)]
theorem M185_2 : f185 kad N Z m 2 I = some (0, up2 I m 0 2) := by rw [M185, if_neg (by decide)]
theorem M185_3 : f185 kad N Z m 3 I = some (0, up2 I m 0 3) := by rw [M185, if_neg (by decide)]
theorem M185_0 : f185 kad N Z m 0 I = some (1, up2 I m 0 0) := by rw [M185, if_pos rfl]
theorem M275 (H : ML m I X) (i : Int32) : f275 kad N Z m i I = some (if i < 0 ∨ 3 < i then (0, up2 I m 0 1) else (X 2 (nT i), up2 I m 0 0)) := by
  unfold f275 f275_b15 f275_b31
  rw [M186, Option.bind_some]
  by_cases hb : i < 0 ∨ 3 < i
  · rw [if_pos hb, if_pos hb, if_pos rfl, M185_1, Option.bind_some, if_pos rfl]
  · rw [if_neg hb, if_neg hb, if_neg z10]
    obtain ⟨e, e2⟩ := ix_in (b := 3) (n := 4) hb (by decide) (by decide)
    rw [M185_0, Option.bind_some, if_neg z10]
    dsimp only
    rw [e, Option.bind_some, up2_b (by omega), show I (m + 16) (nT i) = X 2 (nT i) from H.1 2 (nT i) (Or.inr (Or.inl rfl)) (show nT i < 4 by omega)]
theorem M276 (i : Int32) : f276 kad N Z i I = some (if i < 0 ∨ 255 < i then 0 else 1, I) := by
  unfold f276
  rw [M186, Option.bind_some]
  by_cases hb : i < 0 ∨ 255 < i
  · rw [if_pos hb, if_pos (Or.inl rfl)]
  · rw [if_neg hb, if_pos (Or.inr rfl)]
theorem M277 (H : ML m I X) (i : Int32) : f277 kad N Z m i I = some (if i < 0 ∨ 255 < i then (0, up2 I m 0 1) else (X 6 (nT i), up2 I m 0 0)) := by
  unfold f277 f277_b13 f277_b29
  rw [M276, Option.bind_some]
  by_cases hb : i < 0 ∨ 255 < i
  · rw [if_pos hb, if_pos hb, if_pos rfl, M185_1, Option.bind_some, if_pos rfl]
  · rw [if_neg hb, if_neg hb, if_neg z10]
    obtain ⟨e, e2⟩ := ix_in (b := 255) (n := 256) hb (by decide) (by decide)
    rw [M185_0, Option.bind_some, if_neg z10]
    dsimp only
    rw [e, Option.bind_some, up2_b (by omega), show I (m + 15) (nT i) = X 6 (nT i) from H.1 6 (nT i) (by unfold mC; omega) (show nT i < 256 by omega)]
theorem K162 (H : RM (g + 114) I X) (ht : X 1 12 = Int32.ofNat t) (ht2 : t ≤ 60) (i : Int32) : f162 kad N Z g i I = some (rx [2] (if i < 0 ∨ X 1 12 ≤ i then 1 else 0) (X 7 (nT i)), I) := by
  unfold f162 f162_b24
  rw [H.q1]
  by_cases h0 : i < 0
  · rw [if_pos h0, if_pos (Or.inl h0)]; rfl
  · rw [if_neg h0]
    by_cases h1 : X 1 12 ≤ i
    · rw [if_pos h1, if_pos (Or.inr h1)]; rfl
    · rw [if_neg h1, if_neg (show ¬ (i < 0 ∨ X 1 12 ≤ i) from fun h => h.elim h0 h1)]
      have e := of_nT h0
      have hl := Int32.toInt_lt i
      have hn : nT i = i.toInt.toNat := rfl
      have h2 : nT i < t := by
        rw [ht, ← e] at h1
        rcases Nat.lt_or_ge (nT i) t with hh | hh
        · exact hh
        · exact absurd ((of_le (by omega) (by omega)).mpr hh) h1
      have e60 : i < 60 := by
        have : Int32.ofNat (nT i) < Int32.ofNat 60 := (of_lt (by omega) (by decide)).mpr (by omega)
        rwa [e] at this
      have hx : nT (X 1 12) = t := by rw [ht]; exact nT_of (by omega)
      rw [if_pos e60, (congrArg (ixA 60) e.symm).trans (ixA_of (show nT i < 60 by omega)), Option.bind_some, rx_0, show I (g + 121) (nT i) = X 7 (nT i) from H 7 (nT i) (by decide) (show nT i < nT (X 1 12) ∧ nT i < 60 by omega)]
theorem M280 (H : ML m I X) (ht : X 1 12 = Int32.ofNat t) (ht2 : t ≤ 60) (i : Int32) : f280 kad N Z m i I = some (if i < 0 ∨ X 1 12 ≤ i then (0, up2 I m 0 1) else (X 7 (nT i), up2 I m 0 0)) := by
  have hb : (i < 0 ∨ X 1 12 - 1 < i) ↔ (i < 0 ∨ X 1 12 ≤ i) := by
    refine or_congr Iff.rfl ?_
    rw [ht]
    have h1 : (Int32.ofNat t).toInt = t := Int32.toInt_ofNat_of_lt (by omega)
    have h2 : (Int32.ofNat t - 1).toInt = (t : Int) - 1 := by
      rw [Int32.toInt_sub, h1]
      show ((t : Int) - 1).bmod _ = _
      rw [Int.bmod_def]
      omega
    rw [Int32.lt_iff_toInt_lt, Int32.le_iff_toInt_le, h1, h2]
    omega
  unfold f280 f280_b20 f280_b36
  rw [M186, Option.bind_some, H.q1 (j := 37) (k := 12)]
  by_cases h : i < 0 ∨ X 1 12 ≤ i
  · rw [if_pos h, if_pos (hb.mpr h), if_pos rfl, M185_1, Option.bind_some, if_pos rfl]
  · rw [if_neg h, if_neg (fun hh => h (hb.mp hh)), if_neg z10]
    have h0 : ¬ i < 0 := fun hh => h (Or.inl hh)
    have h1 : ¬ X 1 12 ≤ i := fun hh => h (Or.inr hh)
    have e := of_nT h0
    have hl := Int32.toInt_lt i
    have hn : nT i = i.toInt.toNat := rfl
    have h2 : nT i < t := by
      rw [ht, ← e] at h1
      rcases Nat.lt_or_ge (nT i) t with hh | hh
      · exact hh
      · exact absurd ((of_le (by omega) (by omega)).mpr hh) h1
    have hx : nT (X 1 12) = t := by rw [ht]; exact nT_of (by omega)
    rw [M185_0, Option.bind_some, if_neg z10]
    dsimp only
    rw [(congrArg (ixA 60) e.symm).trans (ixA_of (show nT i < 60 by omega)), Option.bind_some, up2_b (by omega), show I (m + 17) (nT i) = X 7 (nT i) from H.1 7 (nT i) (by unfold mC; omega) (show nT i < nT (X 1 12) ∧ nT i < 60 by omega)]
theorem K168 (H : RM (g + 114) I X) : f168 kad N Z g I = some (X 8 1, I) := by
  unfold f168
  rw [show I (g + 122) 1 = X 8 1 from H 8 1 (by decide) rfl]
theorem M286 (H : ML m I X) : f286 kad N Z m I = some (X 8 1, up2 I m 0 0) := by
  unfold f286; rw [wI_ok, Option.bind_some, up0 (by decide), show I m 52 = X 8 1 from H.1 8 1 (by unfold mC; omega) rfl]
theorem K169 (H : RM (g + 114) I X) (i j : Int32) : f169 kad N Z g i j I = some (rx [0] (if (i < 0 ∨ 31 < i) ∨ (j < 0 ∨ 7 < j) then 1 else 0) (X 9 (8 * nT i + nT j)), I) := by
  unfold f169
  rw [K138, Option.bind_some]
  by_cases hb : i < 0 ∨ 31 < i
  · rw [if_pos hb, if_pos (Or.inl hb)]; rfl
  · rw [if_neg hb]
    unfold xB
    dsimp only
    rw [K138, Option.bind_some]
    by_cases hc : j < 0 ∨ 7 < j
    · rw [if_pos hc, if_pos (Or.inr hc)]; rfl
    · rw [if_neg hc, if_neg (fun h => h.elim hb hc)]
      dsimp only
      obtain ⟨e, _, e2⟩ := in_nat (i := i) (a := 0) (b := 31) hb
      obtain ⟨d, _, d2⟩ := in_nat (i := j) (a := 0) (b := 7) hc
      have h := f43_ok (kad := kad) (N := N) (Z := Z) (d := g + 122) (J := I) (b := nT i) (p := nT j) (by omega) (by omega)
      rw [← e, ← d] at h
      rw [h, Option.bind_some, rx_0, show I (g + 122 + 1) (8 * nT i + nT j) = X 9 (8 * nT i + nT j) from H 9 _ (by decide) (show 8 * nT i + nT j < 256 by omega)]
theorem M287 (H : ML m I X) (i j : Int32) : f287 kad N Z m i j I = some (if (i < 0 ∨ 31 < i) ∨ (j < 0 ∨ 7 < j) then (0, up2 I m 0 1) else (X 9 (8 * nT i + nT j), up2 I m 0 0)) := by
  unfold f287 f287_b25 f287_b26 f287_b47
  rw [M186, Option.bind_some]
  by_cases hb : i < 0 ∨ 31 < i
  · rw [if_pos hb, if_pos (Or.inl hb), if_pos rfl, M185_1, Option.bind_some, if_pos rfl]
  · rw [if_neg hb, if_neg z10, M186, Option.bind_some]
    by_cases hc : j < 0 ∨ 7 < j
    · rw [if_pos hc, if_pos (Or.inr hc), if_pos rfl, M185_1, Option.bind_some, if_pos rfl]
    · rw [if_neg hc, if_neg (show ¬ ((i < 0 ∨ 31 < i) ∨ (j < 0 ∨ 7 < j)) from fun h => h.elim hb hc), if_neg z10, M185_0, Option.bind_some, if_neg z10]
      obtain ⟨e, _, e2⟩ := in_nat (i := i) (a := 0) (b := 31) hb
      obtain ⟨d, _, d2⟩ := in_nat (i := j) (a := 0) (b := 7) hc
      have hi : (8 : Int32) * i + j = Int32.ofNat (8 * nT i + nT j) := by
        rw [← eA, ← eM, ← e, ← d]; rfl
      dsimp only
      rw [hi, ixA_of (by omega), Option.bind_some, up2_b (by omega), show I (m + 24) (8 * nT i + nT j) = X 9 (8 * nT i + nT j) from H.1 9 _ (by unfold mC; omega) (show 8 * nT i + nT j < 256 by omega)]
theorem K170 (hN : 2000 ≤ N) (H : RM (g + 114) I X) : f170 kad N Z g I = some (cFi (X 9) 6 0 0, I) := by
  unfold f170
  rw [K52 hN, cFi_cong (D := X 9) (fun k hk => H 9 k (by decide) hk) 6 0 0 (by decide), Option.bind_some]
theorem M288 (hN : 2000 ≤ N) (H : ML m I X) : f288 kad N Z m I = some (cFi (X 9) 6 0 0, up2 I m 0 0) := by
  unfold f288
  rw [wI_ok, Option.bind_some, M285 hN, cFi_cong (D := X 9) (fun k hk => by rw [up2_b (by omega)]; exact H.1 9 k (by unfold mC; omega) hk) 6 0 0 (by decide), Option.bind_some]
theorem K173 (hN : 2000 ≤ N) (H : RM (g + 114) I X) (hw : ∀ k, k < 256 → wd (X 9 k)) : f173 kad N Z g I = some (cFr (X 9) 24 8 0, I) := by
  have h9 : ∀ k, k < 256 → I (g + 122 + 1) k = X 9 k := fun k hk => H 9 k (by decide) hk
  unfold f173
  rw [K57 hN (by rw [h9 _ (by decide)]; exact hw _ (by decide)) (by rw [h9 _ (by decide)]; exact hw _ (by decide)), cFr_cong h9 24 8 0 (by decide), Option.bind_some]
theorem M292' (hN : 2000 ≤ N) (hz : Z.1 (m + 24) = some (100, 256)) (H : ML m I X) : f292 kad N Z m I = some (cFr (X 9) 24 8 0, up2 I m 0 0) := by
  rw [M292 hN hz, cFr_cong (D := X 9) (E := I (m + 24)) (fun k hk => H.1 9 k (by unfold mC; omega) hk) 24 8 0 (by decide)]
/-- a machine that is off does no step -/
theorem C146_off (H : RM (g + 114) I X) (h0 : X 1 0 = 0) (i : Int32) : f146 kad N Z g i I = some (rx [0, 1] (if i < 1 ∨ 100 < i then 1 else 2) 0, I) := by
  unfold f146
  rw [K138, Option.bind_some]
  by_cases hb : i < 1 ∨ 100 < i
  · rw [if_pos hb, if_pos hb]; rfl
  · rw [if_neg hb, if_neg hb]
    unfold xB
    dsimp only
    rw [K165 H, Option.bind_some, if_pos h0]; rfl
theorem C147_off (H : RM (g + 114) I X) (h0 : X 1 0 = 0) (i j : Int32) : f147 kad N Z g i j I = some (rx [0, 1] (if (i < 0 ∨ 255 < i) ∨ (j < 1 ∨ 100 < j) then 1 else 2) 0, I) := by
  unfold f147
  rw [K138, Option.bind_some]
  by_cases hb : i < 0 ∨ 255 < i
  · rw [if_pos hb, if_pos (Or.inl hb)]; rfl
  · rw [if_neg hb]
    unfold xB
    dsimp only
    rw [K138, Option.bind_some]
    by_cases hc : j < 1 ∨ 100 < j
    · rw [if_pos hc, if_pos (Or.inr hc)]; rfl
    · rw [if_neg hc, if_neg (fun h => h.elim hb hc)]
      dsimp only
      rw [K165 H, Option.bind_some, if_pos h0]; rfl
theorem C148_off (H : RM (g + 114) I X) (h0 : X 1 0 = 0) (i : Int32) : f148 kad N Z g i I = some (rx [0, 1] (if i < 1 ∨ 200 < i then 1 else 2) 0, I) := by
  unfold f148
  rw [K138, Option.bind_some]
  by_cases hb : i < 1 ∨ 200 < i
  · rw [if_pos hb, if_pos hb]; rfl
  · rw [if_neg hb, if_neg hb]
    unfold xB
    dsimp only
    rw [K165 H, Option.bind_some, if_pos h0]; rfl
theorem C149_off (H : RM (g + 114) I X) (h0 : X 1 0 = 0) (i : Int32) : f149 kad N Z g i I = some (rx [0, 1] (if i < 0 ∨ 65535 < i then 1 else 2) 0, I) := by
  unfold f149
  rw [K138, Option.bind_some]
  by_cases hb : i < 0 ∨ 65535 < i
  · rw [if_pos hb, if_pos hb]; rfl
  · rw [if_neg hb, if_neg hb]
    unfold xB
    dsimp only
    rw [H.q1, h0, if_neg (by decide)]; rfl
theorem M216_0 (H : ML m I X) (h0 : X 1 0 = 0) : f216 kad N Z m I = some (0, I) := by rw [M216 H, if_pos h0]
theorem M262_off (H : ML m I X) (h0 : X 1 0 = 0) (i : Int32) : f262 kad N Z m i I = some (0, up2 I m 0 (if i < 1 ∨ 100 < i then 1 else 2)) := by
  unfold f262 f262_b27
  rw [M186, Option.bind_some]
  by_cases hb : i < 1 ∨ 100 < i
  · rw [if_pos hb, if_pos hb, if_neg z00, M185_1, Option.bind_some, if_neg z00]
  · rw [if_neg hb, if_neg hb, if_pos z10]
    dsimp only
    rw [M216_0 H h0, Option.bind_some, if_pos rfl, M185_2, Option.bind_some, if_neg z00]
theorem M263_off (H : ML m I X) (h0 : X 1 0 = 0) (i j : Int32) : f263 kad N Z m i j I = some (0, up2 I m 0 (if (i < 0 ∨ 255 < i) ∨ (j < 1 ∨ 100 < j) then 1 else 2)) := by
  unfold f263 f263_b22 f263_b38
  rw [M186, Option.bind_some]
  by_cases hb : i < 0 ∨ 255 < i
  · rw [if_pos hb, if_pos (Or.inl hb), if_pos rfl, M185_1, Option.bind_some, if_neg z00]
  · rw [if_neg hb, if_neg z10, M186, Option.bind_some]
    by_cases hc : j < 1 ∨ 100 < j
    · rw [if_pos hc, if_pos (Or.inr hc), if_neg z00, M185_1, Option.bind_some, if_neg z00]
    · rw [if_neg hc, if_neg (show ¬ ((i < 0 ∨ 255 < i) ∨ (j < 1 ∨ 100 < j)) from fun h => h.elim hb hc), if_pos z10]
      dsimp only
      rw [M216_0 H h0, Option.bind_some, if_pos rfl, M185_2, Option.bind_some, if_neg z00]
theorem M264_off (H : ML m I X) (h0 : X 1 0 = 0) (i : Int32) : f264 kad N Z m i I = some (0, up2 I m 0 (if i < 1 ∨ 200 < i then 1 else 2)) := by
  unfold f264 f264_b28
  rw [M186, Option.bind_some]
  by_cases hb : i < 1 ∨ 200 < i
  · rw [if_pos hb, if_pos hb, if_neg z00, M185_1, Option.bind_some, if_neg z00]
  · rw [if_neg hb, if_neg hb, if_pos z10]
    dsimp only
    rw [M216_0 H h0, Option.bind_some, if_pos rfl, M185_2, Option.bind_some, if_neg z00]
theorem M265_off (H : ML m I X) (h0 : X 1 0 = 0) (i : Int32) : f265 kad N Z m i I = some (0, up2 I m 0 (if i < 0 ∨ 65535 < i then 1 else 2)) := by
  unfold f265 f265_b32 f265_b37
  rw [M186, Option.bind_some]
  by_cases hb : i < 0 ∨ 65535 < i
  · rw [if_pos hb, if_pos hb, if_neg z00, M185_1, Option.bind_some, if_neg z00]
  · rw [if_neg hb, if_neg hb, if_pos z10]
    dsimp only
    rw [if_pos (show ¬ I m 23 = 1 from by rw [H.q1 (j := 23) (k := 0), h0]; decide), M185_2, Option.bind_some, if_neg z00]
end QU
